/** Each sentence of the document with a test of its own. */
public final class SentencesTest {
    public static void main(String[] args) {
        VoiceTermsEdges.all();
        PressingEdges.all();
        TextEdges.all();
        VoiceEdges.all();
        KeyEdges.all();
        ActionEdges.all();
        UndoEdges.all();
        AheadEdges.all();
        SimulateEdges.all();
        SlotEdges.all();
        ExceptionEdges.all();
        Sentence.allAreHeld("A synthesizer with few voices", "what later calls answer is free", "Ahead of the calls");
        Check.end();
    }
}
