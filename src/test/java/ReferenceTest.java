import java.lang.reflect.InvocationTargetException;
import java.lang.reflect.Method;
import java.util.HashMap;
import java.util.Map;
import java.util.Random;

/** Long random runs of calls, each answer compared with that of PlainRoads, which tries all ways. */
public final class ReferenceTest {
    private static final String[] READERS = {"forced", "near", "match", "tuned"};
    private static final String[] ASKERS = {"letter", "phrase", "part", "after", "place", "option", "stretch", "exact",
        "many", "way", "step", "word", "found", "halves", "stack", "agreed", "needed", "idle", "reach", "width", "fault", "count"};
    private static final String[] CHANGERS = {"put", "price", "drop", "tune", "image", "back"};
    private static final String LETTERS = "abcde";

    private final Map<String, Method> real = new HashMap<>();
    private final Map<String, Method> plain = new HashMap<>();
    private final StringBuilder log = new StringBuilder();
    private Random random;
    private PhraseRoads roads;
    private PlainRoads model;
    private int compared;
    private int skipped;
    private boolean wrong;

    public static void main(String[] args) throws Exception {
        int runs = args.length > 0 ? Integer.parseInt(args[0]) : 400;
        int first = args.length > 1 ? Integer.parseInt(args[1]) : 1;
        ReferenceTest test = new ReferenceTest();
        for (int seed = first; seed < first + runs && !test.wrong; seed++) {
            test.run(seed);
        }
        System.out.println("ReferenceTest: " + test.compared + " answers compared, " + test.skipped + " left out");
        if (test.wrong || test.compared == 0) {
            System.exit(1);
        }
    }

    private ReferenceTest() {
        for (Method m : PhraseRoads.class.getDeclaredMethods()) {
            if (java.lang.reflect.Modifier.isPublic(m.getModifiers())) {
                real.put(m.getName(), m);
                for (Method other : PlainRoads.class.getDeclaredMethods()) {
                    if (other.getName().equals(m.getName()) && java.util.Arrays.equals(other.getParameterTypes(), m.getParameterTypes())) {
                        plain.put(m.getName(), other);
                    }
                }
            }
        }
    }

    private void run(int seed) throws Exception {
        random = new Random(seed);
        roads = new PhraseRoads();
        model = new PlainRoads();
        log.setLength(0);
        int calls = 0;
        while (calls < 450 && !wrong) {
            calls += act();
        }
        if (wrong) {
            System.out.println("run " + seed + ":\n" + log);
        }
    }

    private int act() throws Exception {
        int dice = random.nextInt(100);
        if (dice < 6) {
            return text("book", list(random.nextInt(5) == 0 ? 13 : 4, "entry"));
        }
        if (dice < 11) {
            return text("fluency", list(random.nextInt(5) == 0 ? 13 : 8, "pair"));
        }
        if (dice < 15) {
            return text("sentence", words(0, random.nextInt(6) == 0 ? 7 : 4));
        }
        if (dice < 17) {
            return text("learn", lesson());
        }
        if (dice < 26) {
            return text(READERS[random.nextInt(READERS.length)], told());
        }
        if (dice < 38) {
            call(CHANGERS[random.nextInt(CHANGERS.length)]);
            return 1;
        }
        call(ASKERS[random.nextInt(ASKERS.length)]);
        return 1;
    }

    private int text(String reader, String text) throws Exception {
        String told = random.nextInt(6) == 0 ? spoiled(text) : text;
        log.append("  \"").append(told).append("\"\n");
        int calls = 2;
        for (int from = 0; from < told.length(); from += 20) {
            Object[] five = new Object[5];
            for (int i = 0; i < 5; i++) {
                five[i] = Desk.four(told, from + 4 * i);
            }
            compare("feed", five);
            calls++;
        }
        compare("end", told.length());
        call(reader);
        compare("fault");
        compare("count", 0);
        return calls + 2;
    }

    private String spoiled(String text) {
        String signs = "ab 09=;^$/A\0\377z";
        StringBuilder b = new StringBuilder(text);
        int at = random.nextInt(text.length() + 1);
        char sign = signs.charAt(random.nextInt(signs.length()));
        if (at < b.length() && random.nextBoolean()) {
            if (random.nextBoolean()) {
                b.setCharAt(at, sign);
            } else {
                b.deleteCharAt(at);
            }
        } else if (b.length() < 400) {
            b.insert(at, sign);
        }
        return b.toString();
    }

    private String list(int most, String what) {
        StringBuilder b = new StringBuilder(blank());
        int n = random.nextInt(most + 1);
        for (int i = 0; i < n; i++) {
            b.append(i == 0 ? "" : ";").append(blank()).append(what.equals("entry") ? entry() : pair()).append(blank());
        }
        return b.length() > 400 ? "" : b.toString();
    }

    private String entry() {
        return words(1, 2 + random.nextInt(2)) + blank() + "=" + blank() + words(0, 3) + blank() + cost();
    }

    private String pair() {
        String a = random.nextInt(5) == 0 ? "^" : word();
        String b = random.nextInt(5) == 0 ? "$" : word();
        return a + " " + b + blank() + cost();
    }

    private String lesson() {
        int one = 1 + random.nextInt(5);
        int two = 1 + random.nextInt(5);
        StringBuilder b = new StringBuilder(words(one, one) + blank() + "=" + words(two, two) + "/" + blank());
        java.util.TreeSet<String> links = new java.util.TreeSet<>();
        int n = 1 + random.nextInt(5);
        for (int i = 0; i < n; i++) {
            links.add(random.nextInt(one) + " " + random.nextInt(two));
        }
        return b.append(String.join(blank() + ";" + blank(), links)).toString();
    }

    /** Often a text that some way gives, else any words. */
    private String told() {
        if (random.nextInt(3) == 0) {
            return words(0, random.nextInt(6) == 0 ? 20 : 6);
        }
        StringBuilder b = new StringBuilder();
        int k = random.nextInt(30);
        for (int n = 0; roads.word(k, n) != -1; n++) {
            int word = roads.word(k, n);
            b.append(n == 0 ? "" : " ");
            for (int i = 0; roads.letter(word, i) != -1; i++) {
                b.append((char) ('a' + roads.letter(word, i)));
            }
        }
        return b.toString();
    }

    private String words(int least, int most) {
        StringBuilder b = new StringBuilder();
        int n = least + (most > least ? random.nextInt(most - least + 1) : 0);
        for (int i = 0; i < n; i++) {
            b.append(i == 0 ? "" : " ").append(blank()).append(word());
        }
        return b.toString();
    }

    private String word() {
        if (random.nextInt(60) == 0) {
            return "abcdefghij".substring(0, 2 + random.nextInt(9));
        }
        return String.valueOf(LETTERS.charAt(random.nextInt(LETTERS.length())));
    }

    private String cost() {
        int dice = random.nextInt(50);
        if (dice == 0) {
            return "100";
        }
        return dice == 1 ? "0007" : dice == 2 ? "007" : String.valueOf(random.nextInt(dice < 30 ? 6 : 100));
    }

    private String blank() {
        return " ".repeat(random.nextInt(8) == 0 ? 2 : 0);
    }

    private void call(String name) throws Exception {
        Class<?>[] types = real.get(name).getParameterTypes();
        Object[] values = new Object[types.length];
        for (int i = 0; i < types.length; i++) {
            values[i] = types[i] == boolean.class ? (Object) random.nextBoolean() : (Object) number(name, i);
        }
        compare(name, values);
    }

    private int number(String name, int i) {
        int dice = random.nextInt(40);
        if (dice == 0) {
            return new int[] {Integer.MIN_VALUE, Integer.MAX_VALUE, -1, -2, 1 << 30}[random.nextInt(5)];
        }
        if (name.equals("tune") && i == 1) {
            return random.nextInt(random.nextBoolean() ? 8 : 102);
        }
        if (name.equals("price") && i == 1) {
            return random.nextInt(102);
        }
        if (i == 0 && (name.equals("way") || name.equals("step") || name.equals("word") || name.equals("count"))) {
            return random.nextInt(random.nextBoolean() ? 4 : 32);
        }
        return random.nextInt(8) - 1;
    }

    private void compare(String name, Object... values) throws Exception {
        String want = outcome(plain.get(name), model, values);
        String got = outcome(real.get(name), roads, values);
        log.append("  ").append(name).append(java.util.Arrays.toString(values)).append(" -> ").append(got).append('\n');
        if (want.equals("TooMuch")) {
            skipped++;
            return;
        }
        compared++;
        if (!got.equals(want)) {
            wrong = true;
            log.append("  due is ").append(want).append('\n');
        }
    }

    private static String outcome(Method m, Object on, Object[] values) throws Exception {
        try {
            return String.valueOf(m.invoke(on, values));
        } catch (InvocationTargetException e) {
            return e.getCause().getClass().getSimpleName();
        }
    }
}
