/** Each sentence of the document that names a boundary case, by its promise and its own words. */
public final class BoundariesTest {
    public static void main(String[] args) {
        Check check = new Check();
        new TermBoundaries(check).run();
        new TextBoundaries(check).run();
        new AnswerBoundaries(check).run();
        new ActBoundaries(check).run();
        new RefusedBoundaries(check).run();
        check.everySentenceWasNamed();
        check.close();
    }
}
