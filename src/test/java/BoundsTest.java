/** Whatever the document says, with looks of its own: its boundary cases first, then the rest of it. */
public final class BoundsTest {
    private BoundsTest() {
    }

    public static void main(String[] args) {
        Sentences document = new Sentences();
        new BoundTexts(document).all();
        new BoundLearned(document).all();
        new BoundCalls(document).all();
        new BoundWays(document).all();
        new BoundTold(document).all();
        new BoundRest(document).all();
        document.close("BoundsTest");
    }
}
