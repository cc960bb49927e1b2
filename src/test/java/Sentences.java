import java.io.IOException;
import java.nio.charset.StandardCharsets;
import java.nio.file.Files;
import java.nio.file.Path;

/** Looks that each stand for one sentence of the document; the sentence is looked up there, so that none is made up. */
final class Sentences {
    private static final int PROMISES = 39;
    private static final Path DOCUMENT = Path.of("..", "shared", "DOC.md");
    final Desk desk = new Desk();
    private final String document = readDocument();
    private final boolean[] named = new boolean[PROMISES + 1];
    private int held;

    private static String readDocument() {
        try {
            return flat(Files.readString(DOCUMENT, StandardCharsets.UTF_8));
        } catch (IOException e) {
            System.out.println(DOCUMENT + " is not there: no sentence is looked up");
            return null;
        }
    }

    private static String flat(String text) {
        return text.replaceAll("\\s+", " ");
    }

    /** The promise whose call shows it, the document's own words, and the looks that fail if they do not hold. */
    void holds(int promise, String sentence, Runnable looks) {
        desk.under("P" + promise + " \"" + sentence + "\": ");
        named[promise] = true;
        held++;
        if (document != null) {
            desk.due("the document says so", document.contains(flat(sentence)), true);
        }
        int before = desk.looks();
        try {
            looks.run();
        } catch (RuntimeException e) {
            desk.wrong(e + " at " + e.getStackTrace()[0]);
        }
        desk.due("something is looked at", desk.looks() > before, true);
    }

    void close(String name) {
        desk.under("");
        for (int promise = 1; promise <= PROMISES; promise++) {
            desk.due("promise " + promise + " is named", named[promise], true);
        }
        System.out.println(name + ": " + held + " sentences");
        desk.close(name);
    }
}
