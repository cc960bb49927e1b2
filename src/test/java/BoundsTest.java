/** Each sentence of the document that names a boundary case, with looks of its own. */
public final class BoundsTest {
    private BoundsTest() {
    }

    public static void main(String[] args) {
        Sentences document = new Sentences();
        new BoundTexts(document).all();
        new BoundLearned(document).all();
        new BoundCalls(document).all();
        new BoundWays(document).all();
        new BoundTold(document).all();
        document.close("BoundsTest");
    }
}
