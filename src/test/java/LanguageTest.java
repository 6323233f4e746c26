import java.io.IOException;
import java.lang.management.ManagementFactory;
import java.lang.reflect.Constructor;
import java.lang.reflect.Field;
import java.lang.reflect.Method;
import java.lang.reflect.Modifier;
import java.nio.file.Files;
import java.nio.file.Path;
import java.util.ArrayList;
import java.util.Arrays;
import java.util.List;
import java.util.Set;
import java.util.TreeSet;
import java.util.regex.Matcher;
import java.util.regex.Pattern;

/** The rules of LANGUAGE.md that a program can look at, and the face as the document writes it. */
public final class LanguageTest {
    private static final Path SOURCE = Path.of("src/main/java/LentHands.java");
    private static final Path DOCUMENT = Path.of("../shared/DOC.md");
    private static int wrong;

    public static void main(String[] args) throws IOException {
        String source = Files.readString(SOURCE);
        String code = source.replaceAll("(?s)/\\*.*?\\*/", "").replaceAll("//[^\n]*", "")
            .replaceAll("'[^']'", "0").replaceAll("\"[^\"]*\"", "TEXT");
        face();
        words(code);
        sizes(code);
        library(code);
        madeInACall();
        System.out.println(wrong + " rules broken");
        if (wrong > 0) {
            System.exit(1);
        }
    }

    private static void holds(boolean so, String rule) {
        if (!so) {
            wrong++;
            System.out.println(rule);
        }
    }

    private static void face() throws IOException {
        Set<String> due = new TreeSet<>();
        Matcher m = Pattern.compile("^    public ([a-z]+) (\\w+)\\((.*)\\);$", Pattern.MULTILINE).matcher(Files.readString(DOCUMENT));
        while (m.find()) {
            due.add(m.group(1) + " " + m.group(2) + "(" + m.group(3).replaceAll(" \\w+(,|$)", "$1") + ")");
        }
        Set<String> open = new TreeSet<>();
        Set<String> openNames = new TreeSet<>();
        Set<String> closedNames = new TreeSet<>();
        for (Method method : LentHands.class.getDeclaredMethods()) {
            List<String> types = new ArrayList<>();
            for (Class<?> type : method.getParameterTypes()) {
                types.add(type.getName());
            }
            if (Modifier.isPublic(method.getModifiers())) {
                open.add(method.getReturnType().getName() + " " + method.getName() + "(" + String.join(", ", types) + ")");
                openNames.add(method.getName());
            } else {
                holds(Modifier.isPrivate(method.getModifiers()), "rule 1: " + method.getName() + " is not private");
                closedNames.add(method.getName());
            }
        }
        holds(due.size() == 43 && due.equals(open), "rule 1: the methods are " + open + ", due are " + due);
        Constructor<?>[] constructors = LentHands.class.getDeclaredConstructors();
        holds(constructors.length == 1 && constructors[0].getParameterCount() == 0
            && Modifier.isPublic(constructors[0].getModifiers()), "rule 1: the constructor");
        holds(Modifier.isFinal(LentHands.class.getModifiers()), "rule 1: final");
        for (Field field : LentHands.class.getDeclaredFields()) {
            boolean constant = field.getName().equals("NONE");
            holds(constant ? Modifier.isPublic(field.getModifiers()) : Modifier.isPrivate(field.getModifiers()), "rule 1: " + field);
        }
        for (Class<?> inside : LentHands.class.getDeclaredClasses()) {
            holds(Modifier.isStatic(inside.getModifiers()) && !Modifier.isPublic(inside.getModifiers()), "rule 2: " + inside);
            for (Method method : inside.getDeclaredMethods()) {
                closedNames.add(method.getName());
            }
        }
        closedNames.retainAll(openNames);
        holds(closedNames.isEmpty(), "rule 1: names of public methods: " + closedNames);
        List<Class<?>> classes = new ArrayList<>(Arrays.asList(LentHands.class.getDeclaredClasses()));
        classes.add(LentHands.class);
        holds(classes.size() <= 12, "rule 11: " + classes.size() + " classes");
        for (Class<?> each : classes) {
            int fields = 0;
            for (Field field : each.getDeclaredFields()) {
                if (Modifier.isStatic(field.getModifiers())) {
                    holds(Modifier.isFinal(field.getModifiers()), "rule 5: " + field);
                } else {
                    fields++;
                }
            }
            holds(fields <= 20, "rule 11: " + fields + " fields in " + each);
        }
    }

    private static void words(String code) {
        for (String word : List.of("throw", "throws", "try", "catch", "finally", "synchronized", "assert", "import", "package",
            "volatile", "transient", "native", "yield", "equals", "hashCode", "toString", "getClass", "instanceof")) {
            holds(!Pattern.compile("\\b" + word + "\\b").matcher(code).find(), "rules 3 to 6: " + word);
        }
        holds(!code.contains("->") && !code.contains("::"), "rule 2: a lambda or a method reference");
        holds(!code.contains("TEXT +") && !code.contains("+ TEXT"), "rule 10: texts joined by +");
        holds(!Pattern.compile("static\\s*\\{").matcher(code).find(), "rule 5: a static initialiser");
        holds(!Pattern.compile("while \\(true\\)|for \\(;;\\)").matcher(code).find(), "rule 9: a loop without an end");
    }

    private static void sizes(String code) {
        Matcher m = Pattern.compile("^( {4,8})[\\w\\[\\]<> ]+ (\\w+)\\(([^)]*)\\) \\{\\n(.*?)^\\1\\}", Pattern.MULTILINE | Pattern.DOTALL).matcher(code);
        int seen = 0;
        while (m.find()) {
            seen++;
            int lines = m.group(4).split("\n").length;
            int parameters = m.group(3).isEmpty() ? 0 : m.group(3).split(",").length;
            holds(lines <= 60, "rule 11: " + m.group(2) + " has " + lines + " lines");
            holds(parameters <= 7, "rule 11: " + m.group(2) + " has " + parameters + " parameters");
        }
        holds(seen > 80, "the methods were not found: " + seen);
    }

    private static void library(String code) {
        Set<String> allowed = Set.of("Math.min", "Math.max", "System.arraycopy", "Integer.bitCount", "WORDS.length", "WORDS.charAt");
        Matcher m = Pattern.compile("\\b([A-Z]\\w*)\\.(\\w+)\\(").matcher(code);
        while (m.find()) {
            holds(allowed.contains(m.group(1) + "." + m.group(2)), "rule 4: " + m.group());
        }
        Matcher made = Pattern.compile("new (\\w+)").matcher(code);
        Set<String> kinds = Set.of("int", "char", "World", "Texts", "Reader", "Asked", "Law", "Table");
        while (made.find()) {
            holds(kinds.contains(made.group(1)), "rule 3: " + made.group());
        }
    }

    /** All rows are made in the constructor: no call makes any. */
    private static void madeInACall() {
        com.sun.management.ThreadMXBean bean = (com.sun.management.ThreadMXBean) ManagementFactory.getThreadMXBean();
        long id = Thread.currentThread().getId();
        LentHands x = null;
        long before = bean.getThreadAllocatedBytes(id);
        x = new LentHands();
        long one = bean.getThreadAllocatedBytes(id) - before;
        holds(one < 200000, "rule 12: an object takes " + one + " bytes");
        for (int i = 0; i < 8; i++) {
            x.person(100, 0);
            x.task(i, i % 4);
        }
        before = bean.getThreadAllocatedBytes(id);
        for (int i = 0; i < 500; i++) {
            x.lend(i % 16, i / 16 % 8, 3, 1);
            x.feed(0x6d61793b, 0x6d61793b, 0x6d61793b, 0, i);
            x.end(12);
            x.text(i % 5);
            x.hours(1);
            x.deed(i % 8, 0);
            x.pay(0);
            x.back();
            x.wishes(0, 0, 0);
            x.premium(0, 99);
            x.image(i % 2 == 0);
            x.undo();
        }
        long made = bean.getThreadAllocatedBytes(id) - before;
        holds(made < 100000, "rule 12: 500 rounds of calls made " + made + " bytes");
    }
}
