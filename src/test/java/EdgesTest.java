import java.io.IOException;

/** The sentences of the document one by one, at their boundaries; and that none is left out. */
public final class EdgesTest {
    private EdgesTest() {
    }

    public static void main(String[] args) throws IOException {
        Sentence.readDocument();
        TimeEdges.all();
        BatchEdges.all();
        LawEdges.all();
        BuyerEdges.all();
        OrderEdges.all();
        WaitingEdges.all();
        GiftEdges.all();
        AnswerEdges.all();
        Sentence.allAreQuoted();
        Check.end("EdgesTest");
    }
}
