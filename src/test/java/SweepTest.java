import java.util.Random;

/** Random books, fluencies and sentences with many like costs, narrow stacks and short jumps; then everything is asked. */
public final class SweepTest {
    private final Random random;
    private final Twins twins = new Twins(30000);

    public static void main(String[] args) throws Exception {
        int runs = args.length > 0 ? Integer.parseInt(args[0]) : 250;
        int first = args.length > 1 ? Integer.parseInt(args[1]) : 1;
        boolean wrong = false;
        for (int seed = first; seed < first + runs && !wrong; seed++) {
            SweepTest test = new SweepTest(seed);
            test.build();
            test.sweep();
            wrong = test.twins.wrong;
            if (wrong) {
                System.out.println("run " + seed + ":\n" + test.twins.log);
            }
        }
        Twins.close("SweepTest", wrong);
    }

    private SweepTest(int seed) {
        random = new Random(seed);
    }

    private void build() throws Exception {
        String letters = random.nextBoolean() ? "abc" : "abcdef";
        String targets = random.nextBoolean() ? "xy" : "abxyz";
        int costs = new int[] {2, 4, 30}[random.nextInt(3)];
        StringBuilder book = new StringBuilder();
        int phrases = random.nextInt(7);
        for (int i = 0; i < phrases; i++) {
            book.append(i == 0 ? "" : ";").append(row(letters, 1 + random.nextInt(random.nextInt(3) + 1))).append('=');
            book.append(row(targets, random.nextInt(4))).append(' ').append(random.nextInt(costs));
        }
        twins.read("book", book.toString());
        StringBuilder pairs = new StringBuilder();
        int told = random.nextInt(12);
        for (int i = 0; i < told; i++) {
            String first = random.nextInt(4) == 0 ? "^" : row(letters + targets, 1);
            String second = random.nextInt(4) == 0 ? "$" : row(letters + targets, 1);
            pairs.append(i == 0 ? "" : ";").append(first).append(' ').append(second).append(' ').append(random.nextInt(costs));
        }
        twins.read("fluency", pairs.toString());
        twins.read("sentence", row(letters, random.nextInt(phrases < 3 ? 7 : 6)));
        twins.ask("tune", 0, random.nextInt(costs));
        twins.ask("tune", 1, random.nextInt(2 * costs));
        twins.ask("tune", 2, random.nextInt(3));
        twins.ask("tune", 3, random.nextBoolean() ? 6 : random.nextInt(7));
        twins.ask("tune", 4, 1 + random.nextInt(random.nextBoolean() ? 4 : 40));
    }

    private String row(String letters, int size) {
        StringBuilder b = new StringBuilder();
        for (int i = 0; i < size; i++) {
            b.append(i == 0 ? "" : " ").append(letters.charAt(random.nextInt(letters.length())));
        }
        return b.toString();
    }

    private void sweep() throws Exception {
        int places = twins.roads.count(3);
        twins.ask("exact");
        twins.ask("many");
        twins.ask("needed");
        twins.ask("idle");
        twins.ask("reach");
        twins.ask("width");
        for (int n = 1; n <= 10; n += 3) {
            twins.ask("agreed", n);
        }
        for (int what = 0; what < 5; what++) {
            twins.ask("found", what);
        }
        for (int n = 0; n <= places; n++) {
            twins.ask("stack", n, 0);
            twins.ask("stack", n, 1);
            twins.ask("halves", n, 0);
            twins.ask("halves", n, 1);
        }
        for (int from = 0; from < places; from++) {
            for (int to = from; to < places; to++) {
                twins.ask("stretch", from, to);
            }
        }
        for (int p = 0; p < twins.roads.count(1); p++) {
            twins.ask("phrase", p, 4);
            twins.ask("phrase", p, 5);
        }
        for (int k = 0; k < 30; k += 1 + random.nextInt(3)) {
            sweepWay(k);
        }
        tellTexts();
    }

    private void sweepWay(int k) throws Exception {
        for (int what = 0; what < 3; what++) {
            twins.ask("way", k, what);
        }
        int steps = twins.roads.way(k, 1);
        for (int n = 0; n <= steps; n++) {
            for (int what = 0; what < 3; what++) {
                twins.ask("step", k, n, what);
            }
        }
        twins.ask("word", k, random.nextInt(5));
    }

    private void tellTexts() throws Exception {
        PhraseRoads roads = twins.roads;
        for (int k = 0; k < 30; k += 7) {
            StringBuilder text = new StringBuilder();
            for (int n = 0; roads.word(k, n) != -1; n++) {
                text.append(n == 0 ? "" : " ").append((char) ('a' + roads.letter(roads.word(k, n), 0)));
            }
            twins.read("forced", text.toString());
            twins.read("near", text.toString());
            twins.read("match", text.toString(), 1 + random.nextInt(3));
            twins.read("tuned", text.toString());
        }
    }
}
