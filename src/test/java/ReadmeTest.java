import java.io.ByteArrayOutputStream;
import java.io.File;
import java.io.IOException;
import java.io.PrintStream;
import java.lang.reflect.Method;
import java.lang.reflect.Modifier;
import java.nio.charset.StandardCharsets;
import java.nio.file.Files;
import java.nio.file.Path;
import java.util.ArrayList;
import java.util.List;
import java.util.Set;
import java.util.TreeSet;
import java.util.concurrent.TimeUnit;
import java.util.regex.Matcher;
import java.util.regex.Pattern;

/** What README.md says is so: its program answers what stands in it, its commands run, its table has every test. */
public final class ReadmeTest {
    private static final Path TESTS = Path.of("src", "test", "java");
    private static final int MOST_SECONDS = 300;
    private final Desk desk = new Desk();
    private final String readme = Files.readString(Path.of("README.md"), StandardCharsets.UTF_8);

    private ReadmeTest() throws IOException {
    }

    public static void main(String[] args) throws Exception {
        ReadmeTest test = new ReadmeTest();
        test.program();
        test.answers();
        test.everyCall();
        test.commands();
        test.table();
        test.files();
        test.desk.close("ReadmeTest");
    }

    private List<String> blocks(String kind) {
        List<String> blocks = new ArrayList<>();
        Matcher matcher = Pattern.compile("(?s)```" + kind + "\n(.*?)```").matcher(readme);
        while (matcher.find()) {
            blocks.add(matcher.group(1));
        }
        return blocks;
    }

    private static String tour() throws IOException {
        return Files.readString(TESTS.resolve("Tour.java"), StandardCharsets.UTF_8);
    }

    /** So what is compiled and run here is what the reader sees. */
    private void program() throws IOException {
        List<String> programs = blocks("java");
        desk.due("programs shown", programs.size(), 1);
        desk.due("the program shown is Tour.java", programs.size() == 1 && programs.get(0).equals(tour()), true);
    }

    private void answers() throws IOException {
        List<String> said = new ArrayList<>();
        List<String> calls = new ArrayList<>();
        for (String line : tour().split("\n")) {
            if (line.contains("show(roads.")) {
                Matcher answer = Pattern.compile("// (\\S+): ").matcher(line);
                calls.add(line.trim());
                said.add(answer.find() ? answer.group(1) : "");
            }
        }
        PrintStream before = System.out;
        ByteArrayOutputStream printed = new ByteArrayOutputStream();
        System.setOut(new PrintStream(printed, true, StandardCharsets.UTF_8));
        try {
            Tour.main(new String[0]);
        } finally {
            System.setOut(before);
        }
        String[] got = printed.toString(StandardCharsets.UTF_8).split("\\R");
        desk.due("answers printed", got.length, said.size());
        for (int i = 0; i < said.size(); i++) {
            String answer = i < got.length ? got[i] : "nothing";
            desk.due(calls.get(i) + " answered " + answer + ": as it says", answer.equals(said.get(i)), true);
        }
    }

    private void everyCall() throws IOException {
        for (Method method : PhraseRoads.class.getDeclaredMethods()) {
            if (Modifier.isPublic(method.getModifiers())) {
                desk.due("it shows " + method.getName(), tour().contains("roads." + method.getName() + "("), true);
            }
        }
    }

    /** All blocks in one shell, as a reader would go through them. */
    private void commands() throws Exception {
        List<String> scripts = blocks("sh");
        desk.due("commands are given", !scripts.isEmpty(), true);
        File printed = File.createTempFile("readme", ".txt");
        Process shell = new ProcessBuilder("bash", "-e", "-u", "-c", String.join("\n", scripts))
            .redirectErrorStream(true).redirectOutput(printed).start();
        boolean ended = shell.waitFor(MOST_SECONDS, TimeUnit.SECONDS);
        if (!ended) {
            shell.destroyForcibly();
        }
        int code = ended ? shell.exitValue() : -1;
        desk.due("exit code of the commands", code, 0);
        if (code != 0) {
            System.out.println(Files.readString(printed.toPath(), StandardCharsets.UTF_8));
        }
        Files.delete(printed.toPath());
    }

    private void table() throws IOException {
        Set<String> there = new TreeSet<>();
        try (var files = Files.list(TESTS)) {
            files.map(file -> file.getFileName().toString()).filter(name -> name.endsWith("Test.java"))
                .forEach(name -> there.add(name.substring(0, name.length() - ".java".length())));
        }
        Set<String> told = new TreeSet<>();
        Matcher rows = Pattern.compile("(?m)^\\| (`.*?) \\|").matcher(readme);
        while (rows.find()) {
            Matcher names = Pattern.compile("`(\\w+Test)`").matcher(rows.group(1));
            while (names.find()) {
                told.add(names.group(1));
            }
        }
        desk.due("the table has " + told + " of " + there, told.equals(there), true);
    }

    private void files() {
        for (String name : new String[] {".ci/run", "src/main/java/PhraseRoads.java", "../shared/DOC.md", "../shared/LANGUAGE.md"}) {
            desk.due("it names " + name, readme.contains("`" + name + "`"), true);
            desk.due(name + " is there", Files.exists(Path.of(name)), true);
        }
        desk.due(".ci/run can be run", Files.isExecutable(Path.of(".ci", "run")), true);
    }
}
