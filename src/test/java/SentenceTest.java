/**
 * Each sentence of the document, with its boundary cases: at the bound and beside it on both sides,
 * and the calls that are refused. It fails if a sentence of the document has no test here.
 */
public final class SentenceTest {
    private static final int MOST_CALLS = 512;

    public static void main(String[] args) {
        Doc doc = new Doc();
        TermSentences.test(doc);
        GraphSentences.test(doc);
        InputSentences.test(doc);
        EditSentences.test(doc);
        PathSentences.test(doc);
        MaximumSentences.test(doc);
        StateSentences.test(doc);
        ExceptionSentences.test(doc);
        doc.allAreTested();
        lastCalls();
        Check.end("SentenceTest");
    }

    /** An object is used for at most 512 calls after it has been made. */
    private static void lastCalls() {
        MatchingGraph x = new MatchingGraph();
        for (int call = 1; call <= MOST_CALLS - 6; call++) {
            Check.due("call " + call, x.setEdge(0, 1, call % 2 == 1), call % 2 == 1 ? 0 : 1);
        }
        Check.due("call 507", x.setEdge(0, 1, true), 0);
        Check.due("call 508", x.undo(), 3);
        Check.due("call 509", x.undo(), 2);
        Check.due("call 510", x.count(1), 1);
        Check.due("call 511", x.undo(), 1);
        Check.due("call 512", x.edge(0, 1, 0), 0);
    }
}
