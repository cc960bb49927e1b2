import java.nio.charset.StandardCharsets;
import java.nio.file.Files;
import java.nio.file.Path;
import java.util.Set;
import java.util.regex.Matcher;
import java.util.regex.Pattern;

/** What of LANGUAGE.md can be seen in the program's text alone. */
public final class LanguageTest {
    private static final Set<String> LIBRARY = Set.of("Arrays.fill", "Math.abs", "Math.min", "Math.max", "Integer.bitCount",
        "System.arraycopy");
    private static final Set<String> IMPORTS = Set.of("java.util.Arrays", "java.util.NoSuchElementException");
    private static final String[] RULED_OUT = {"->", "::", "try", "catch", "finally", "synchronized", "assert", "Exact(",
        "package", "instanceof", "double", "float", "protected", "static {"};
    private static final int LONGEST = 60;

    public static void main(String[] args) throws Exception {
        Desk desk = new Desk();
        String whole = Files.readString(Path.of("src/main/java/PhraseRoads.java"), StandardCharsets.UTF_8);
        desk.due("signs of 7 bits alone", whole.chars().allMatch(c -> c < 128), true);
        String text = whole.replaceAll("(?s)/\\*.*?\\*/", " ").replaceAll("//[^\n]*", " ").replaceAll("\"[^\"\n]*\"", "\"\"");
        for (String word : RULED_OUT) {
            String pattern = Character.isLetter(word.charAt(0)) ? "\\b" + Pattern.quote(word) : Pattern.quote(word);
            desk.due("without " + word, Pattern.compile(pattern + "(?![a-zA-Z])").matcher(text).find(), false);
        }
        Matcher imports = Pattern.compile("import ([\\w.*]+);").matcher(text);
        while (imports.find()) {
            desk.due("import " + imports.group(1), IMPORTS.contains(imports.group(1)), true);
        }
        Matcher calls = Pattern.compile("\\b([A-Z][a-z]\\w*\\.\\w+)\\(").matcher(text);
        while (calls.find()) {
            String call = calls.group(1);
            boolean own = call.startsWith("Knowledge.") || call.startsWith("Lesson.");
            desk.due("call of " + call, own || LIBRARY.contains(call), true);
        }
        Matcher thrown = Pattern.compile("throw ([^;]*);").matcher(text);
        while (thrown.find()) {
            desk.due(thrown.group(), thrown.group(1).matches("new \\w+Exception\\((\"\")?\\)"), true);
        }
        shortMethods(desk, whole);
        desk.close("LanguageTest");
    }

    private static void shortMethods(Desk desk, String whole) {
        String[] lines = whole.split("\n");
        int begin = -1;
        for (int i = 0; i < lines.length; i++) {
            if (lines[i].matches(" {4,8}(public|private) [^=;]*\\) ?.*\\{")) {
                begin = i;
            }
            if (begin >= 0 && lines[i].matches(" {4,8}}")) {
                desk.due(lines[begin].trim() + " is short", i - begin < LONGEST, true);
                begin = -1;
            }
        }
    }
}
