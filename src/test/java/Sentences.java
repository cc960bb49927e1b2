import java.io.IOException;
import java.nio.charset.StandardCharsets;
import java.nio.file.Files;
import java.nio.file.Path;
import java.util.Arrays;
import java.util.regex.Matcher;
import java.util.regex.Pattern;

/** Looks that each stand for one sentence of the document: looked up there, so that none is made up, and none left out. */
final class Sentences {
    private static final int PROMISES = 39;
    private static final Path DOCUMENT = Path.of("..", "shared", "DOC.md");
    final Desk desk = new Desk();
    private final String document = readDocument();
    private final boolean[] said = new boolean[document == null ? 0 : document.length()];
    private final boolean[] named = new boolean[PROMISES + 1];
    private int held;

    private static String readDocument() {
        try {
            return flat(Files.readString(DOCUMENT, StandardCharsets.UTF_8));
        } catch (IOException e) {
            System.out.println(DOCUMENT + " is not there: no sentence is looked up");
            return null;
        }
    }

    private static String flat(String text) {
        return text.replaceAll("\\s+", " ");
    }

    /** The promise whose call shows it, the document's own words, and the looks that fail if they do not hold. */
    void holds(int promise, String sentence, Runnable looks) {
        desk.under("P" + promise + " \"" + sentence + "\": ");
        named[promise] = true;
        held++;
        if (document != null) {
            desk.due("the document says so", mark(promise, flat(sentence)), true);
        }
        int before = desk.looks();
        try {
            looks.run();
        } catch (RuntimeException e) {
            desk.wrong(e + " at " + e.getStackTrace()[0]);
        }
        desk.due("something is looked at", desk.looks() > before, true);
    }

    /** Marks the words where the promise says them, else wherever they stand; false if they stand nowhere. */
    private boolean mark(int promise, String words) {
        int own = document.indexOf("## Promise " + promise + ":");
        int behind = document.indexOf("## ", own + 3);
        int at = document.indexOf(words, own);
        if (at < 0 || at + words.length() > behind) {
            at = document.indexOf(words);
        }
        if (at >= 0) {
            Arrays.fill(said, at, at + words.length(), true);
        }
        return at >= 0;
    }

    /** What the document says of the class, but for headings and the face, must stand in some sentence that was held. */
    private void lookForUnsaid() {
        if (document == null) {
            return;
        }
        Matcher bare = Pattern.compile("## Promise \\d+: [\\w ]+ `[^`]*`:|```text|```|==== \\d\\.|## Terms").matcher(document);
        while (bare.find()) {
            Arrays.fill(said, bare.start(), bare.end(), true);
        }
        int end = document.indexOf("## Not promised");
        int from = document.indexOf("## Terms");
        while (from < end) {
            int to = from;
            while (to < end && said[to] == said[from]) {
                to++;
            }
            String words = document.substring(from, to);
            if (!said[from] && words.chars().anyMatch(Character::isLetter)) {
                desk.wrong("no test says \"" + words.trim() + "\"");
            }
            from = to;
        }
    }

    void close(String name) {
        desk.under("");
        for (int promise = 1; promise <= PROMISES; promise++) {
            desk.due("promise " + promise + " is named", named[promise], true);
        }
        lookForUnsaid();
        System.out.println(name + ": " + held + " sentences");
        desk.close(name);
    }
}
