import java.util.Random;

/** Random runs near what can be held: 40 words, 30 phrases, 60 pairs, 12 entries, 12 links, 6 places, 400 bytes; compared with PlainRoads. */
public final class CrowdTest {
    private static final int POOL = 44;
    private final Random random;
    private final Twins twins = new Twins(3000);

    public static void main(String[] args) throws Exception {
        int runs = args.length > 0 ? Integer.parseInt(args[0]) : 60;
        int first = args.length > 1 ? Integer.parseInt(args[1]) : 1;
        boolean wrong = false;
        for (int seed = first; seed < first + runs && !wrong; seed++) {
            CrowdTest test = new CrowdTest(seed);
            test.run();
            wrong = test.twins.wrong;
            if (wrong) {
                System.out.println("run " + seed + ":\n" + test.twins.log);
            }
        }
        Twins.close("CrowdTest", wrong);
    }

    private CrowdTest(int seed) {
        random = new Random(seed);
    }

    private void run() throws Exception {
        int calls = 0;
        while (calls < 440 && !twins.wrong) {
            calls += act();
        }
    }

    private int act() throws Exception {
        switch (random.nextInt(14)) {
            case 0:
            case 1:
                return twins.read("book", list(this::entry));
            case 2:
            case 3:
            case 4:
                return twins.read("fluency", list(this::pair));
            case 5:
                return twins.read("sentence", row(random.nextInt(8)));
            case 6:
                return twins.read("learn", lesson());
            case 7:
                return twins.read(new String[] {"forced", "near", "tuned"}[random.nextInt(3)], row(random.nextInt(20)));
            case 8:
                twins.ask("drop", random.nextInt(31), random.nextInt(3) > 0);
                return 1;
            case 9:
                twins.ask(random.nextInt(4) == 0 ? "image" : "back");
                return 1;
            default:
                return askHeld();
        }
    }

    private int askHeld() throws Exception {
        int word = random.nextInt(42) - 1;
        int phrase = random.nextInt(31);
        twins.ask("after", word, random.nextInt(42) - 1);
        twins.ask("letter", word, random.nextInt(4));
        twins.ask("phrase", phrase, random.nextInt(6));
        twins.ask("part", phrase, random.nextBoolean(), random.nextInt(3));
        twins.ask("put", random.nextInt(6), word);
        twins.ask("option", random.nextInt(6), random.nextInt(4));
        twins.ask("idle");
        twins.ask("exact");
        twins.ask("found", random.nextInt(5));
        for (int what = 0; what < 10; what += 1 + random.nextInt(3)) {
            twins.ask("count", what);
        }
        return 14;
    }

    private interface Thing {
        String tell();
    }

    private String list(Thing thing) {
        StringBuilder text = new StringBuilder(blank());
        int many = random.nextInt(3) == 0 ? 12 : 1 + random.nextInt(13);
        for (int i = 0; i < many; i++) {
            text.append(i == 0 ? "" : ";").append(blank()).append(thing.tell());
        }
        if (random.nextInt(12) == 0) {
            text.append(new String[] {";", "?", "a", "=", "0", " ; 100"}[random.nextInt(6)]);
        }
        return filled(text.toString());
    }

    private String entry() {
        return row(1 + random.nextInt(random.nextInt(30) == 0 ? 4 : 2)) + "=" + row(random.nextInt(random.nextInt(30) == 0 ? 5 : 3)) + " " + cost();
    }

    private String pair() {
        return (random.nextInt(9) == 0 ? "^" : word()) + " " + (random.nextInt(9) == 0 ? "$" : word()) + " " + cost();
    }

    /** With places and links up to one too many, and now and then a link twice. */
    private String lesson() {
        int one = 1 + random.nextInt(random.nextInt(8) == 0 ? 7 : 4);
        int other = 1 + random.nextInt(random.nextInt(8) == 0 ? 7 : 4);
        StringBuilder text = new StringBuilder(row(one)).append('=').append(row(other)).append('/');
        int step = 1 + random.nextInt(6);
        int links = 0;
        for (int link = random.nextInt(step); link < one * other && links < 13; link += step) {
            text.append(links == 0 ? "" : ";").append(link / other).append(' ').append(link % other);
            links++;
        }
        if (links == 0 || random.nextInt(10) == 0) {
            text.append(links == 0 ? "" : ";").append(random.nextInt(one + 1)).append(' ').append(random.nextInt(other + 1));
        }
        return filled(text.toString());
    }

    /** Now and then blanks up to the last byte that the tape can have. */
    private String filled(String text) {
        if (text.length() > 400) {
            return text.substring(0, 400);
        }
        return random.nextInt(10) == 0 ? " ".repeat(400 - text.length()) + text : text;
    }

    private String row(int size) {
        StringBuilder text = new StringBuilder();
        for (int i = 0; i < size; i++) {
            text.append(i == 0 ? "" : " ").append(word());
        }
        return text.toString();
    }

    /** Most of them often, the last of the pool seldom, so that words that are none yet come late, too. */
    private String word() {
        int i = random.nextInt(12) == 0 ? random.nextInt(POOL) : random.nextInt(37);
        return "wxyz".charAt(i % 4) + "" + (char) ('a' + i / 4);
    }

    private String cost() {
        return random.nextInt(100) == 0 ? "100" : String.valueOf(random.nextInt(100));
    }

    private String blank() {
        return random.nextInt(6) == 0 ? " " : "";
    }
}
