/**
 * The edges that the document names, sentence by sentence: what is just allowed and just not, what is empty, what is
 * full, what wraps around, and every call that is refused. At the end every word of the document must be quoted.
 */
public final class EdgesTest {
    private EdgesTest() {
    }

    public static void main(String[] args) throws Exception {
        Edges e = new Edges("EdgesTest");
        TapeEdges.run(e);
        TextEdges.run(e);
        EntryEdges.run(e);
        JudgeEdges.run(e);
        TableEdges.run(e);
        PrizeEdges.run(e);
        GardenEdges.run(e);
        AgainEdges.run(e);
        FullEdges.run(e);
        SignEdges.run(e);
        PairEdges.run(e);
        e.end();
    }
}
