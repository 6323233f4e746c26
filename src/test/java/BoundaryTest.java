/** Each sentence of the document's Terms and promises, just inside the bounds that it names and just outside. */
public final class BoundaryTest extends Sentences {
    public static void main(String[] args) {
        PeopleBounds.run();
        TextBounds.run();
        ActBounds.run();
        ThoughtBounds.run();
        UndoBounds.run();
        PromiseBounds.run();
        allQuoted();
        close();
    }
}
