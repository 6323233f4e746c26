import java.io.IOException;
import java.net.URL;
import java.net.URLClassLoader;
import java.nio.file.Files;
import java.nio.file.Path;
import java.util.ArrayList;
import java.util.List;
import java.util.regex.Matcher;
import java.util.regex.Pattern;
import javax.tools.ToolProvider;

/** The Java in README.md compiles, and each call in it answers what stands behind it; each promise is named there. */
public final class ReadmeTest extends Checks {
    private static final Pattern BLOCK = Pattern.compile("```java\n(.*?)```", Pattern.DOTALL);
    private static final Pattern ROW = Pattern.compile("((?:x\\.\\w+|tell)\\(.*\\)); +// (-?\\w+)(?::.*)?");

    private final List<String> calls = new ArrayList<>();
    private final List<String> answers = new ArrayList<>();

    public static void main(String[] args) throws Exception {
        about("README.md");
        String page = Files.readString(Path.of("README.md"));
        new ReadmeTest().run(page);
        namesEachPromise(page);
        close();
    }

    private void run(String page) throws Exception {
        List<?> got = answered(source(page));
        due("calls with an answer", calls.size() > 30, true);
        due("answers", got.size(), calls.size());
        for (int i = 0; i < Math.min(got.size(), calls.size()); i++) {
            due(calls.get(i) + " (" + got.get(i) + ", there " + answers.get(i) + ")", got.get(i).equals(answers.get(i)), true);
        }
    }

    /** The page's blocks as one class: methods stay such, calls are put one behind the other and their answers kept. */
    private String source(String page) {
        StringBuilder methods = new StringBuilder();
        StringBuilder rows = new StringBuilder();
        Matcher block = BLOCK.matcher(page);
        while (block.find()) {
            if (block.group(1).startsWith("static")) {
                methods.append(block.group(1));
                continue;
            }
            for (String line : block.group(1).split("\n")) {
                Matcher row = ROW.matcher(line);
                if (row.matches()) {
                    calls.add(row.group(1));
                    answers.add(row.group(2));
                    rows.append("got.add(String.valueOf(").append(row.group(1)).append("));\n");
                } else {
                    rows.append(line).append('\n');
                }
            }
        }
        return "import java.util.*;\npublic final class Page {\npublic static List<String> run() {\n"
            + "List<String> got = new ArrayList<>();\n" + rows + "return got;\n}\n" + methods + "}\n";
    }

    private static List<?> answered(String source) throws Exception {
        Path made = Files.createTempDirectory("readme");
        Path file = made.resolve("Page.java");
        Files.writeString(file, source);
        int failed = ToolProvider.getSystemJavaCompiler().run(null, null, null, "-d", made.toString(),
            "-cp", System.getProperty("java.class.path"), file.toString());
        due("the page's Java compiles", failed, 0);
        if (failed != 0) {
            return List.of();
        }
        try (URLClassLoader loader = new URLClassLoader(new URL[] {made.toUri().toURL()})) {
            return (List<?>) loader.loadClass("Page").getMethod("run").invoke(null);
        } finally {
            remove(made);
        }
    }

    private static void remove(Path made) throws IOException {
        for (String name : List.of("Page.java", "Page.class")) {
            Files.deleteIfExists(made.resolve(name));
        }
        Files.delete(made);
    }

    private static void namesEachPromise(String page) throws IOException {
        Matcher promise = Pattern.compile("^## Promise (\\d+): (\\w+)$", Pattern.MULTILINE)
            .matcher(Files.readString(Path.of("../shared/DOC.md")));
        int found = 0;
        while (promise.find()) {
            String named = "`" + promise.group(2) + "` " + promise.group(1);
            due("it names " + named, page.contains(named), true);
            found++;
        }
        due("promises with a method", found, 43);
    }
}
