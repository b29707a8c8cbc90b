/** Each sentence of the document that names a boundary, by itself, under the promise that it belongs to. */
public final class EdgesTest {
    public static void main(String[] args) {
        CityEdges.run();
        MenEdges.run();
        LawEdges.run();
        TextEdges.run();
        LoadEdges.run();
        SendEdges.run();
        MinuteEdges.run();
        FundEdges.run();
        RefusedEdges.run();
        Check.allPromisesNamed();
        Check.finish();
    }
}
