/** Promises 18 to 36: options, ways, stacks and told texts, worked out by hand. */
public final class WaysTest {
    private final Desk desk = new Desk();

    public static void main(String[] args) {
        WaysTest test = new WaysTest();
        test.passing();
        test.ties();
        test.emptyTargets();
        test.options();
        test.stretches();
        test.counts();
        test.manyFirsts();
        test.merging();
        test.cutting();
        test.nowhere();
        test.forcing();
        test.nearing();
        test.matching();
        test.agreeing();
        test.worths();
        test.reaching();
        test.tuning();
        test.largest();
        test.desk.close("WaysTest");
    }

    /** Unseen, pass, jump, far, wide. */
    private static PhraseRoads roads(int unseen, int pass, int jump, int far, int wide) {
        PhraseRoads roads = new PhraseRoads();
        int[] values = {unseen, pass, jump, far, wide};
        for (int what = 0; what < 5; what++) {
            roads.tune(what, values[what]);
        }
        return roads;
    }

    private void steps(PhraseRoads roads, int k, int... starts) {
        desk.due("steps of way " + k, roads.way(k, 1), starts.length);
        for (int n = 0; n < starts.length; n++) {
            desk.due("step " + n + " of way " + k, roads.step(k, n, 0), starts[n]);
        }
    }

    private void passing() {
        PhraseRoads roads = roads(0, 10, 2, 6, 8);
        Desk.sentence(roads, "a b");
        desk.due("P20", roads.exact(), 20);
        desk.due("P21", roads.many(), 2);
        steps(roads, 0, 0, 1);
        steps(roads, 1, 1, 0);
        desk.due("P22 cost", roads.way(1, 0), 26);
        desk.due("P22 words", roads.way(1, 2), 2);
        desk.due("P22 no such way", roads.way(2, 0), -1);
        desk.due("P23 first jump", roads.step(1, 0, 2), 12);
        desk.due("P23 jump back", roads.step(1, 1, 2), 14);
        desk.due("P23 pass", roads.step(1, 1, 1), 99);
        desk.due("P23 behind", roads.step(1, 2, 0), -1);
        desk.due("P23 ahead", roads.step(1, -1, 0), -1);
        desk.due("P23 no such way", roads.step(2, 0, 2), -1);
        desk.due("P24 first", roads.word(1, 0), 1);
        desk.due("P24 second", roads.word(1, 1), 0);
        desk.due("P24 behind", roads.word(1, 2), -1);
        desk.due("P24 ahead", roads.word(1, -1), -1);
        desk.due("P24 no such way", roads.word(2, 0), -1);
        desk.argument("P22 k 30", () -> roads.way(30, 0));
        desk.argument("P22 k -1", () -> roads.way(-1, 2));
        desk.element("P22 what is told first", () -> roads.way(30, 3));
        desk.element("P22 what below", () -> roads.way(0, -1));
        desk.argument("P23 k 30", () -> roads.step(30, 0, 0));
        desk.element("P23 what is told first", () -> roads.step(-1, 0, 3));
        desk.element("P23 what below", () -> roads.step(0, 0, -1));
        desk.argument("P24 k 30", () -> roads.word(30, 0));
        desk.argument("P24 k -1", () -> roads.word(-1, 0));
        roads.tune(3, 1);
        desk.due("P21 nobody comes back", roads.many(), 1);
        desk.due("P22 nor is that a way", roads.way(1, 0), -1);
        roads.tune(3, 2);
        desk.due("P21 far enough", roads.many(), 2);
        Desk.fluency(roads, "^ a 1;a b 2;b $ 4");
        desk.due("P20 with fluency", roads.exact(), 26);
        desk.due("P22 with fluency", roads.way(1, 0), 27);
        desk.due("P23 of a step", roads.step(1, 1, 2), 12);
        desk.due("P23 the end is of no step", roads.step(0, 1, 2), 14);
    }

    private void ties() {
        PhraseRoads roads = roads(0, 5, 0, 6, 8);
        Desk.book(roads, "a=x 5;b=y 5;a b=z 10");
        Desk.sentence(roads, "a b");
        desk.due("P21", roads.many(), 9);
        int[][] want = {{0, 0, 1, 1}, {0, 0, 1, 99}, {0, 2}, {0, 99, 1, 1}, {0, 99, 1, 99},
            {1, 1, 0, 0}, {1, 1, 0, 99}, {1, 99, 0, 0}, {1, 99, 0, 99}};
        for (int k = 0; k < want.length; k++) {
            desk.due("P22 cost of " + k, roads.way(k, 0), 10);
            desk.due("P22 steps of " + k, roads.way(k, 1), want[k].length / 2);
            for (int n = 0; n < want[k].length; n++) {
                desk.due("P23 step " + n / 2 + " of " + k, roads.step(k, n / 2, n % 2), want[k][n]);
            }
        }
        desk.due("P22 no tenth", roads.way(9, 0), -1);
        roads.price(2, 9);
        desk.due("P22 the cheaper one is first", roads.step(0, 0, 1), 2);
    }

    private void emptyTargets() {
        PhraseRoads roads = roads(20, 50, 2, 0, 8);
        Desk.book(roads, "a=1;b=2;c=d 3");
        Desk.fluency(roads, "^ d 5;d $ 6;^ $ 7");
        Desk.sentence(roads, "a b");
        desk.due("P20 the end behind the begin", roads.exact(), 10);
        desk.due("P22 no words", roads.way(0, 2), 0);
        desk.due("P24 no word", roads.word(0, 0), -1);
        Desk.sentence(roads, "a c b");
        desk.due("P20 the word ahead is that of the text", roads.exact(), 1 + 3 + 5 + 2 + 6);
        desk.due("P23", roads.step(0, 1, 2), 8);
        desk.due("P23 empty", roads.step(0, 2, 2), 2);
        desk.due("P25", roads.found(0), 17);
    }

    private void options() {
        PhraseRoads roads = new PhraseRoads();
        Desk.book(roads, "a b=x 1;b=y 1;a=z 1;a b c=w 1");
        Desk.sentence(roads, "a b");
        desk.due("P18 the lesser number first", roads.option(0, 0), 0);
        desk.due("P18", roads.option(0, 1), 2);
        desk.due("P18 pass", roads.option(0, 2), 99);
        desk.due("P18 no more", roads.option(0, 3), -1);
        desk.due("P18 below", roads.option(0, -1), -1);
        desk.due("P18 second place", roads.option(1, 0), 1);
        desk.index("P18 no place", () -> roads.option(2, 0));
        desk.index("P18 place below", () -> roads.option(-1, 0));
        desk.due("P33 the longer one is idle", roads.idle(), 8);
        roads.drop(3, true);
        desk.due("P33 gone ones are not idle", roads.idle(), 0);
        roads.drop(0, true);
        desk.due("P18 gone", roads.option(0, 0), 2);
        Desk.sentence(roads, "");
        desk.due("P33 all that are there", roads.idle(), 6);
    }

    private void stretches() {
        PhraseRoads roads = roads(20, 50, 2, 6, 8);
        Desk.book(roads, "a=x 9;a b=x y 4;b c=z 8;a b c=x y z 1;b=3");
        Desk.fluency(roads, "x y 2;y z 3");
        Desk.sentence(roads, "a b c");
        desk.due("P19 one", roads.stretch(0, 0), 9);
        desk.due("P19 empty target", roads.stretch(1, 1), 3);
        desk.due("P19 pass", roads.stretch(2, 2), 50);
        desk.due("P19 fluency inside", roads.stretch(0, 1), 6);
        desk.due("P19 two", roads.stretch(1, 2), 8);
        desk.due("P19 three", roads.stretch(0, 2), 6);
        roads.price(3, 99);
        desk.due("P19 two parts", roads.stretch(0, 2), 17);
        roads.price(1, 99);
        desk.due("P19 parts of a part", roads.stretch(0, 1), 12);
        desk.argument("P19 the second is less", () -> roads.stretch(1, 0));
        desk.index("P19 no such place is told first", () -> roads.stretch(3, 0));
        desk.index("P19 second", () -> roads.stretch(0, 3));
        desk.index("P19 below", () -> roads.stretch(-1, 0));
        desk.index("P19 second below", () -> roads.stretch(0, -1));
    }

    private void counts() {
        PhraseRoads roads = roads(0, 0, 0, 6, 8);
        int[] factorials = {1, 1, 2, 6, 24, 120, 720};
        for (int n = 0; n <= 6; n++) {
            Desk.sentence(roads, "a b c d e f".substring(0, Math.max(0, 2 * n - 1)));
            desk.due("P21 of " + n, roads.many(), factorials[n]);
        }
        Desk.sentence(roads, "a a a a a a");
        Desk.book(roads, "a=b 1;a=c 1;a=d 1;a=e 1;a=f 1;a=g 1;a=h 1;a=i 1;a=j 1");
        desk.due("P21 ten options a place", roads.many(), 720000000);
        Desk.book(roads, "a=k 1");
        desk.due("P21 at most", roads.many(), 1000000000);
        roads.tune(3, 0);
        desk.due("P21 in order", roads.many(), 1771561);
        desk.due("P22 the thirtieth", roads.way(29, 0) >= roads.way(28, 0), true);
    }

    private void manyFirsts() {
        PhraseRoads roads = roads(0, 40, 0, 0, 8);
        StringBuilder book = new StringBuilder();
        for (int i = 0; i < 10; i++) {
            book.append(i == 0 ? "" : ";").append("a=").append((char) ('b' + i)).append(' ').append(10 - i);
        }
        Desk.book(roads, book.toString());
        Desk.sentence(roads, "a a");
        int k = 0;
        for (int cost = 2; k < 30; cost++) {
            for (int one = 0; one < 10 && k < 30; one++) {
                int other = 20 - cost - one;
                if (other >= 0 && other <= 9) {
                    desk.due("P22 cost of " + k, roads.way(k, 0), cost);
                    desk.due("P23 first of " + k, roads.step(k, 0, 1), one);
                    desk.due("P23 second of " + k, roads.step(k, 1, 1), other);
                    k++;
                }
            }
        }
    }

    private void merging() {
        PhraseRoads roads = roads(0, 9, 2, 6, 8);
        Desk.book(roads, "a=x 5;a=y x 3");
        Desk.sentence(roads, "a");
        desk.due("P25 cost", roads.found(0), 3);
        desk.due("P25 steps", roads.found(1), 1);
        desk.due("P25 made", roads.found(2), 3);
        desk.due("P25 merged", roads.found(3), 1);
        desk.due("P25 cut", roads.found(4), 0);
        desk.due("P26 start", roads.halves(0, 0), 0);
        desk.due("P26 option", roads.halves(0, 1), 1);
        desk.due("P26 behind", roads.halves(1, 1), -1);
        desk.due("P26 ahead", roads.halves(-1, 0), -1);
        desk.due("P27 two lie", roads.stack(1, 0), 2);
        desk.due("P27 least", roads.stack(1, 1), 3);
        desk.due("P27 stack 0", roads.stack(0, 0), 1);
        desk.due("P27 ahead", roads.stack(0, 1), 3);
        roads.price(1, 5);
        desk.due("P26 of like cost the first", roads.halves(0, 1), 0);
        desk.element("P25 another what", () -> roads.found(5));
        desk.element("P25 what below", () -> roads.found(-1));
        desk.element("P26 another what", () -> roads.halves(0, 2));
        desk.element("P26 what below", () -> roads.halves(0, -1));
        desk.index("P27 no stack is told first", () -> roads.stack(2, 2));
        desk.index("P27 stack below", () -> roads.stack(-1, 0));
        desk.element("P27 another what", () -> roads.stack(1, 2));
        desk.element("P27 what below", () -> roads.stack(0, -1));
    }

    private void cutting() {
        PhraseRoads roads = roads(0, 0, 0, 6, 1);
        Desk.sentence(roads, "a b");
        desk.due("P26 of like score the first", roads.halves(0, 0), 0);
        desk.due("P26 then the other one", roads.halves(1, 0), 1);
        desk.due("P25 made", roads.found(2), 3);
        desk.due("P25 cut", roads.found(4), 1);
        desk.due("P27 ahead of any cut", roads.stack(1, 0), 2);
        desk.due("P27 the last one", roads.stack(2, 0), 1);
        roads.tune(4, 2);
        desk.due("P25 made of both", roads.found(2), 4);
        desk.due("P25 the last stack is not cut", roads.found(4), 0);
        desk.due("P27 two at the end", roads.stack(2, 0), 2);
        Desk.fluency(roads, "^ a 3");
        roads.tune(4, 1);
        desk.due("P26 the better score", roads.halves(0, 0), 1);
    }

    /** The only half that stays jumps where far lets nobody back. */
    private void nowhere() {
        PhraseRoads roads = roads(20, 0, 2, 1, 1);
        Desk.fluency(roads, "^ b 0");
        Desk.sentence(roads, "a b c");
        desk.due("P25 nothing found", roads.found(0), -1);
        desk.due("P25 no steps", roads.found(1), -1);
        desk.due("P25 made", roads.found(2), 3);
        desk.due("P25 merged", roads.found(3), 0);
        desk.due("P25 cut", roads.found(4), 1);
        desk.due("P26 no halves", roads.halves(0, 0), -1);
        desk.due("P27 none lies there", roads.stack(3, 0), 0);
        desk.due("P27 no score", roads.stack(3, 1), -1);
        desk.due("P27 two", roads.stack(1, 0), 2);
        desk.due("P27 the one that jumps", roads.stack(1, 1), 2);
        desk.due("P20", roads.exact(), 80);
        desk.due("P35 two are wide enough", roads.width(), 2);
        desk.due("P35 nothing changes", roads.found(0), -1);
        roads.tune(4, 2);
        desk.due("P25 found", roads.found(0), 80);
    }

    private int told(PhraseRoads roads, String kind, String text) {
        Desk.tape(roads, text);
        switch (kind) {
            case "forced": return roads.forced();
            case "near": return roads.near();
            case "tuned": return roads.tuned();
            default: return roads.match(kind.charAt(0) - '0');
        }
    }

    private void forcing() {
        PhraseRoads roads = roads(0, 50, 1, 6, 8);
        Desk.book(roads, "a=x 1;a=x y 7;b=y 2;b=4");
        Desk.sentence(roads, "a b");
        desk.due("P28 the cheapest", told(roads, "forced", "x y"), 3);
        desk.due("P28 another order", told(roads, "forced", "y x"), 6);
        desk.due("P28 one word", told(roads, "forced", "x"), 5);
        desk.due("P28 three words", told(roads, "forced", " x y y "), 9);
        desk.due("P28 passed", told(roads, "forced", "a b"), 100);
        desk.due("P28 none", told(roads, "forced", "y y"), -1);
        desk.due("P28 empty", told(roads, "forced", ""), -1);
        desk.due("P28 unknown", told(roads, "forced", "x q"), -1);
        roads.tune(3, 1);
        desk.due("P28 far", told(roads, "forced", "y x"), -1);
        roads.drop(0, true);
        desk.due("P28 gone", told(roads, "forced", "x y"), 11);
        Desk.sentence(roads, "");
        desk.due("P28 of nothing", told(roads, "forced", ""), 0);
        desk.due("P28 none of nothing", told(roads, "forced", "x"), -1);
        PhraseRoads long1 = roads(1, 50, 1, 6, 8);
        Desk.book(long1, "a=x x x 0");
        Desk.sentence(long1, "a a a a a a");
        desk.due("P28 eighteen words", told(long1, "forced", "x x x x x x x x x x x x x x x x x x"), 19);
    }

    private void nearing() {
        PhraseRoads roads = roads(0, 1, 1, 0, 8);
        Desk.sentence(roads, "a b c d");
        desk.due("P29 the same", told(roads, "near", "a b c d"), 0);
        desk.due("P29 none", told(roads, "near", ""), 4);
        desk.due("P29 put in", told(roads, "near", "a b q c d"), 1);
        desk.due("P29 taken out", told(roads, "near", "a c d"), 1);
        desk.due("P29 changed", told(roads, "near", "a b b d"), 1);
        desk.due("P29 moved", told(roads, "near", "b c d a"), 2);
        desk.due("P29 unknown ones", told(roads, "near", "q q q q q"), 5);
    }

    private void matching() {
        PhraseRoads roads = roads(0, 1, 1, 0, 8);
        Desk.sentence(roads, "a b a b a");
        desk.due("P30 each as often as it is there", told(roads, "1", "a a b q"), 3);
        desk.due("P30 all", told(roads, "1", "b b b a a a"), 5);
        desk.due("P30 pairs", told(roads, "2", "a b q a b"), 2);
        desk.due("P30 more pairs than there are", told(roads, "2", "a b a b a b a b"), 4);
        desk.due("P30 three", told(roads, "3", "q a b a"), 1);
        desk.due("P30 three twice", told(roads, "3", "a b a b a"), 3);
        desk.due("P30 none", told(roads, "3", "a b"), 0);
        desk.due("P30 unknown", told(roads, "1", "q r"), 0);
        desk.argument("P30 4", () -> told(roads, "4", "a"));
        desk.argument("P30 0", () -> told(roads, "0", "a"));
        Desk.sentence(roads, "a b");
        desk.due("P30 a text too short", told(roads, "3", "a b a"), 0);
    }

    private void agreeing() {
        PhraseRoads roads = roads(0, 50, 0, 0, 8);
        Desk.book(roads, "a=x 1;a=y 2;a=y z 3");
        Desk.sentence(roads, "a");
        desk.due("P31 of one", roads.agreed(1), 0);
        desk.due("P31 of like ones the first", roads.agreed(2), 0);
        desk.due("P31 the middle one", roads.agreed(3), 1);
        desk.due("P31 of all", roads.agreed(10), 1);
        desk.argument("P31 0", () -> roads.agreed(0));
        desk.argument("P31 11", () -> roads.agreed(11));
        desk.argument("P31 below", () -> roads.agreed(Integer.MIN_VALUE));
    }

    private void worths() {
        PhraseRoads roads = roads(0, 50, 0, 6, 8);
        Desk.book(roads, "a=x 1;a=y 4;b=z 2;b=w 2;c=v 0;a=u 2");
        Desk.sentence(roads, "a b");
        desk.due("P10 worth", roads.phrase(0, 5), 1);
        desk.due("P10 of none of the first way", roads.phrase(1, 5), 0);
        desk.due("P10 with one as good", roads.phrase(2, 5), 0);
        desk.due("P10 of no option", roads.phrase(4, 5), 0);
        desk.due("P32", roads.needed(), 1);
        desk.due("P20 nothing changes", roads.exact(), 3);
        roads.drop(3, true);
        desk.due("P10 without that", roads.phrase(2, 5), 48);
        desk.due("P10 gone", roads.phrase(3, 5), 0);
        desk.due("P32 two", roads.needed(), 5);
        desk.due("P22 the ways are as before", roads.way(1, 0), 3);
        desk.due("P23 the ways are as before", roads.step(1, 0, 0), 1);
        Desk.sentence(roads, "a a");
        desk.due("P10 at both places", roads.phrase(0, 5), 2);
    }

    private void reaching() {
        PhraseRoads roads = roads(20, 0, 1, 6, 8);
        Desk.fluency(roads, "^ b 0;b a 0;a $ 0");
        Desk.sentence(roads, "a b");
        desk.due("P20 by jumping", roads.exact(), 3);
        desk.due("P34", roads.reach(), 2);
        roads.tune(3, 1);
        desk.due("P20 not so far", roads.exact(), 60);
        desk.due("P34 whatever far is", roads.reach(), 2);
        desk.due("P20 nothing changes", roads.exact(), 60);
        roads.tune(2, 20);
        desk.due("P34 too dear", roads.reach(), 0);
        PhraseRoads whole = roads(20, 0, 0, 6, 8);
        Desk.fluency(whole, "^ f 0;f a 0");
        Desk.sentence(whole, "a b c d e f");
        desk.due("P34 from the one end to the other", whole.reach(), 6);
    }

    private void tuning() {
        PhraseRoads roads = roads(0, 0, 7, 6, 8);
        Desk.fluency(roads, "^ a 10");
        Desk.sentence(roads, "a b");
        desk.due("P36 the least that does", told(roads, "tuned", "a b"), 4);
        desk.due("P36 of several the least", told(roads, "tuned", "b a"), 0);
        desk.due("P36 none comes nearer", told(roads, "tuned", "q"), 0);
        desk.due("P39 nothing changes", roads.count(6), 7);
        desk.due("P23 nothing changes", roads.step(0, 0, 0), 0);
        Desk.fluency(roads, "^ a 9");
        desk.due("P36 of like cost the first start", told(roads, "tuned", "a b"), 3);
        Desk.fluency(roads, "^ a 60");
        desk.due("P36 up to twenty", told(roads, "tuned", "a b"), 20);
        Desk.fluency(roads, "^ a 61");
        desk.due("P36 and not beyond", told(roads, "tuned", "a b"), 0);
    }

    /** As many options, words and halves as there can be. */
    private void largest() {
        PhraseRoads roads = roads(99, 99, 20, 6, 40);
        Desk.sentence(roads, "a a a a a a");
        for (int i = 0; i < 30; i += 10) {
            StringBuilder book = new StringBuilder();
            for (int j = i; j < i + 10; j++) {
                book.append(j == i ? "" : ";").append(j % 3 == 2 ? "a a=" : "a=").append("w").append((char) ('a' + j % 26));
                book.append((char) ('a' + j / 26)).append(" w").append((char) ('a' + (j * 7 + 3) % 26)).append("a 99");
            }
            Desk.book(roads, book.toString());
        }
        desk.due("phrases", roads.count(1), 30);
        desk.due("P20 three of two words", roads.exact(), 3 * (99 + 99 + 99) + 99);
        desk.due("P21", roads.many(), 1000000000);
        desk.due("P25 as good", roads.found(0), roads.exact());
        desk.due("P35", roads.width(), 1);
        desk.due("P34", roads.reach(), 0);
        desk.due("P32", roads.needed(), 0);
        desk.due("P36", told(roads, "tuned", "a a a a a a a a a a a a a a a a a a"), 0);
        desk.due("P28", told(roads, "forced", "a a a a a a"), 6 * 198 + 99);
        desk.due("P31", roads.agreed(10) < 10, true);
        desk.due("P22", roads.way(29, 0), roads.exact());
    }
}
