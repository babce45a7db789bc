/** All promises: each sentence of the document that names a bound, and what it asks for there. */
final class BoundsTest {
    public static void main(String[] args) throws Exception {
        Document doc = Document.read();
        TermsBounds.ask(doc);
        NearBounds.ask(doc);
        YearBounds.ask(doc);
        TellBounds.ask(doc);
        RefusedBounds.ask(doc);
        SayBounds.ask(doc);
        StrikeBounds.ask(doc);
        WordBounds.ask(doc);
        doc.end();
        Due.end("BoundsTest");
    }
}
