/**
 * The boundary cases: for each sentence of the document that names one a test of its own, which tells
 * the promise and the sentence. With the argument "rest" it prints what of the document no test quotes.
 */
public final class BoundaryTest {
    public static void main(String[] args) {
        CallEdges.all();
        TableEdges.all();
        NameEdges.all();
        ChangeEdges.all();
        InodeEdges.all();
        PlanEdges.all();
        RunEdges.all();
        if (args.length > 0 && args[0].equals("rest")) {
            Sentence.printRest();
        }
        Sentence.finish();
    }
}
