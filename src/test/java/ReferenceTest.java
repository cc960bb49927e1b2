import java.util.Random;
import java.util.TreeSet;

/** Long random runs of calls with right and wrong arguments and texts, each answer compared with PlainRoads. */
public final class ReferenceTest {
    private static final String[] READERS = {"forced", "near", "match", "tuned"};
    private static final String[] ASKERS = {"letter", "phrase", "part", "after", "place", "option", "stretch", "exact",
        "many", "way", "step", "word", "found", "halves", "stack", "agreed", "needed", "idle", "reach", "width", "fault", "count"};
    private static final String[] CHANGERS = {"put", "price", "price", "drop", "drop", "tune", "tune", "tune", "image", "back"};
    private static final String LETTERS = "abcde";

    private final Random random;
    private final Twins twins = new Twins(3000);

    public static void main(String[] args) throws Exception {
        int runs = args.length > 0 ? Integer.parseInt(args[0]) : 300;
        int first = args.length > 1 ? Integer.parseInt(args[1]) : 1;
        boolean wrong = false;
        for (int seed = first; seed < first + runs && !wrong; seed++) {
            ReferenceTest test = new ReferenceTest(seed);
            test.run();
            wrong = test.twins.wrong;
            if (wrong) {
                System.out.println("run " + seed + ":\n" + test.twins.log);
            }
        }
        Twins.close("ReferenceTest", wrong);
    }

    private ReferenceTest(int seed) {
        random = new Random(seed);
    }

    private void run() throws Exception {
        int calls = 0;
        while (calls < 480 && !twins.wrong) {
            calls += act();
        }
    }

    private int act() throws Exception {
        int dice = random.nextInt(100);
        if (dice < 6) {
            return text("book", list(random.nextInt(5) == 0 ? 13 : 4, true));
        }
        if (dice < 11) {
            return text("fluency", list(random.nextInt(5) == 0 ? 13 : 8, false));
        }
        if (dice < 15) {
            return text("sentence", words(random.nextInt(4) == 0 ? 0 : 2, random.nextInt(6) == 0 ? 7 : 4));
        }
        if (dice < 17) {
            return text("learn", lesson());
        }
        if (dice < 26) {
            return text(READERS[random.nextInt(READERS.length)], told());
        }
        String[] names = dice < 36 ? CHANGERS : ASKERS;
        String name = names[random.nextInt(names.length)];
        twins.ask(name, values(name));
        return 1;
    }

    private int text(String reader, String text) throws Exception {
        int calls = twins.read(reader, random.nextInt(6) == 0 ? spoiled(text) : text, values(reader));
        twins.ask("count", random.nextInt(4));
        return calls + 1;
    }

    private String spoiled(String text) {
        String signs = "ab 09=;^$/A\0\377z";
        StringBuilder b = new StringBuilder(text);
        int at = random.nextInt(text.length() + 1);
        char sign = signs.charAt(random.nextInt(signs.length()));
        if (at == b.length() || random.nextBoolean()) {
            b.insert(at, sign);
        } else if (random.nextBoolean()) {
            b.setCharAt(at, sign);
        } else {
            b.deleteCharAt(at);
        }
        return b.length() > 400 ? text : b.toString();
    }

    private String list(int most, boolean entries) {
        StringBuilder b = new StringBuilder(blank());
        int n = random.nextInt(most + 1);
        for (int i = 0; i < n; i++) {
            b.append(i == 0 ? "" : ";").append(blank()).append(entries ? entry() : pair()).append(blank());
        }
        return b.length() > 400 ? "" : b.toString();
    }

    private String entry() {
        return words(1, 2 + random.nextInt(2)) + blank() + "=" + blank() + words(0, 3) + blank() + cost();
    }

    private String pair() {
        String a = random.nextInt(5) == 0 ? "^" : word();
        String b = random.nextInt(5) == 0 ? "$" : word();
        return a + " " + b + blank() + cost();
    }

    private String lesson() {
        int one = 1 + random.nextInt(5);
        int two = 1 + random.nextInt(5);
        TreeSet<String> links = new TreeSet<>();
        int n = 1 + random.nextInt(5);
        for (int i = 0; i < n; i++) {
            links.add(random.nextInt(one) + " " + random.nextInt(two));
        }
        return words(one, one) + blank() + "=" + words(two, two) + "/" + blank() + String.join(blank() + ";" + blank(), links);
    }

    /** Often a text that some way gives, else any words. */
    private String told() {
        if (random.nextInt(3) == 0) {
            return words(0, random.nextInt(6) == 0 ? 20 : 6);
        }
        PhraseRoads roads = twins.roads;
        StringBuilder b = new StringBuilder();
        int k = random.nextInt(30);
        for (int n = 0; roads.word(k, n) != -1; n++) {
            int word = roads.word(k, n);
            b.append(n == 0 ? "" : " ");
            for (int i = 0; roads.letter(word, i) != -1; i++) {
                b.append((char) ('a' + roads.letter(word, i)));
            }
        }
        return b.toString();
    }

    private String words(int least, int most) {
        StringBuilder b = new StringBuilder();
        int n = least + (most > least ? random.nextInt(most - least + 1) : 0);
        for (int i = 0; i < n; i++) {
            b.append(i == 0 ? "" : " ").append(blank()).append(word());
        }
        return b.toString();
    }

    private String word() {
        if (random.nextInt(60) == 0) {
            return "abcdefghij".substring(0, 2 + random.nextInt(9));
        }
        return String.valueOf(LETTERS.charAt(random.nextInt(LETTERS.length())));
    }

    private String cost() {
        int dice = random.nextInt(80);
        if (dice == 0) {
            return "100";
        }
        return dice == 1 ? "0007" : dice == 2 ? "007" : String.valueOf(random.nextInt(dice < 50 ? 6 : 100));
    }

    private String blank() {
        return " ".repeat(random.nextInt(8) == 0 ? 2 : 0);
    }

    private Object[] values(String name) {
        Class<?>[] types = Twins.types(name);
        Object[] values = new Object[types.length];
        for (int i = 0; i < types.length; i++) {
            values[i] = types[i] == boolean.class ? (Object) random.nextBoolean() : (Object) number(name, i);
        }
        return values;
    }

    private int number(String name, int i) {
        if (random.nextInt(50) == 0) {
            return new int[] {Integer.MIN_VALUE, Integer.MAX_VALUE, -1, -2, 1 << 30, 30, 99}[random.nextInt(7)];
        }
        switch (name + i) {
            case "tune0":
                return random.nextInt(5);
            case "tune1":
                return random.nextInt(random.nextInt(4) == 0 ? 102 : 8);
            case "price1":
                return random.nextInt(random.nextBoolean() ? 6 : 101);
            case "way0":
            case "step0":
            case "word0":
                return random.nextInt(random.nextBoolean() ? 4 : 31);
            case "phrase0":
            case "part0":
            case "price0":
            case "drop0":
                return random.nextInt(random.nextBoolean() ? 5 : 31);
            case "count0":
            case "agreed0":
                return random.nextInt(12);
            case "place0":
            case "put0":
            case "option0":
            case "stretch0":
            case "stretch1":
                return random.nextInt(4);
            case "match0":
            case "stack1":
            case "halves1":
                return random.nextInt(4) - (name.equals("match") ? 0 : 1);
            case "way1":
            case "step2":
                return random.nextInt(4);
            default:
                return random.nextInt(7) - (random.nextInt(4) == 0 ? 1 : 0);
        }
    }
}
