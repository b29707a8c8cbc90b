/**
 * Each sentence of the document by itself, under the promise that it belongs to: where it names a boundary, at that one.
 * No words of it are left out.
 */
public final class EdgesTest {
    public static void main(String[] args) {
        CityEdges.run();
        MenEdges.run();
        LawEdges.run();
        TextEdges.run();
        LoadEdges.run();
        SendEdges.run();
        MinuteEdges.run();
        FundEdges.run();
        RefusedEdges.run();
        PlainSentences.run();
        Check.allPromisesNamed();
        Check.allWordsHeld();
        Check.finish();
    }
}
