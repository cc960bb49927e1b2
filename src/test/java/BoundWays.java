/** Boundary cases of options, ways, stretches and stacks: promises 18 to 27. */
final class BoundWays {
    private static final int AT_MOST = 1000000000;
    private final Sentences document;
    private final Desk desk;

    BoundWays(Sentences document) {
        this.document = document;
        this.desk = document.desk;
    }

    void all() {
        options();
        far();
        costs();
        emptySentence();
        order();
        mostWays();
        many();
        noSuchWay();
        stretches();
        ahead();
        wide();
        merged();
        found();
        nothingFound();
        stacks();
    }

    /** Unseen, pass, jump, far, wide. */
    static PhraseRoads tuned(int... values) {
        PhraseRoads roads = new PhraseRoads();
        for (int what = 0; what < values.length; what++) {
            roads.tune(what, values[what]);
        }
        return roads;
    }

    private void row(String name, int[] want, java.util.function.IntUnaryOperator got) {
        for (int k = 0; k < want.length; k++) {
            desk.due(name + " " + k, got.applyAsInt(k), want[k]);
        }
    }

    /** All of a way: its cost, then start and option of each step. */
    private void way(PhraseRoads roads, int k, int cost, int... steps) {
        desk.due("cost of way " + k, roads.way(k, 0), cost);
        desk.due("steps of way " + k, roads.way(k, 1), steps.length / 2);
        row("way " + k + ", start or option", steps, n -> roads.step(k, n / 2, n % 2));
    }

    /** Thirty phrases of the word a, of one word each, all of that cost. */
    static void thirty(PhraseRoads roads, int cost) {
        for (int i = 0; i < 3; i++) {
            StringBuilder text = new StringBuilder();
            for (int j = 0; j < 10; j++) {
                text.append(j == 0 ? "" : ";").append("a=").append((char) ('p' + i)).append((char) ('a' + j)).append(' ').append(cost);
            }
            Desk.book(roads, text.toString());
        }
    }

    private void options() {
        document.holds(18, "a PHRASE, not GONE, whose SOURCE are the WORDS of THE SENTENCE from that PLACE on (told by its number)", () -> {
            PhraseRoads roads = new PhraseRoads();
            Desk.book(roads, "a b=x 1;b a=x 1;b=x 1;a b a=x 1;a=x 1;b b=x 1");
            Desk.sentence(roads, "a b");
            row("at 0", new int[] {0, 4, 99, -1}, k -> roads.option(0, k));
            row("at 1, where two words would go beyond", new int[] {2, 99, -1}, k -> roads.option(1, k));
            Desk.sentence(roads, "a b a");
            row("at 0, three words to the end", new int[] {0, 3, 4, 99, -1}, k -> roads.option(0, k));
            row("at 1, two words to the end", new int[] {1, 2, 99, -1}, k -> roads.option(1, k));
            row("at 2", new int[] {4, 99, -1}, k -> roads.option(2, k));
            roads.drop(3, true);
            roads.drop(0, true);
            row("at 0, without those gone", new int[] {4, 99, -1}, k -> roads.option(0, k));
            roads.drop(0, false);
            row("at 0, there again", new int[] {0, 4, 99, -1}, k -> roads.option(0, k));
        });
        document.holds(18, "or to PASS the WORD there as it is (told as 99: TARGET that WORD alone, COST PASS)", () -> {
            for (int pass : new int[] {0, 99}) {
                PhraseRoads roads = tuned(0, pass, 0);
                Desk.sentence(roads, "a b");
                row("pass alone", new int[] {99, -1}, k -> roads.option(1, k));
                desk.due("its cost", roads.step(0, 1, 2), pass);
                desk.due("its target", roads.word(0, 1), 1);
                desk.due("one word each", roads.way(0, 2), 2);
            }
        });
        document.holds(18, "The k-th OPTION at a PLACE, the lesser number first; NONE without.", () -> {
            PhraseRoads roads = new PhraseRoads();
            thirty(roads, 1);
            Desk.sentence(roads, "a a a a a a");
            for (int place = 0; place < 6; place++) {
                for (int k = 0; k < 30; k++) {
                    desk.due("option(" + place + ", " + k + ")", roads.option(place, k), k);
                }
                desk.due("pass is behind all at " + place, roads.option(place, 30), 99);
                for (int k : new int[] {31, -1, Integer.MIN_VALUE, Integer.MAX_VALUE}) {
                    desk.due("option(" + place + ", " + k + ")", roads.option(place, k), -1);
                }
            }
        });
    }

    /** How many orders of n places have no gap above far. */
    private static int orders(int n, int far, int covered, int behind) {
        if (covered == (1 << n) - 1) {
            return 1;
        }
        int sum = 0;
        for (int start = 0; start < n; start++) {
            if ((covered >> start & 1) == 0 && Math.abs(start - behind) <= far) {
                sum += orders(n, far, covered | 1 << start, start + 1);
            }
        }
        return sum;
    }

    private void far() {
        document.holds(20, "each START is FAR at most away from the place behind the STEP before (without sign; 0 for the first STEP; "
                + "behind: START and as many as it covers)", () -> {
            PhraseRoads roads = tuned(20, 0, 0);
            Desk.fluency(roads, "^ b 0;b a 0;a $ 0");
            Desk.sentence(roads, "a b");
            int[] exact = {60, 60, 0, 0, 0, 0, 0};
            for (int far = 0; far <= 6; far++) {
                roads.tune(3, far);
                desk.due("back over two places, far " + far, roads.exact(), exact[far]);
            }
            Desk.fluency(roads, "^ c 0;c a 0;a b 0;b $ 0;a $ 20");
            Desk.sentence(roads, "a b c");
            int[] first = {80, 80, 40, 0, 0};
            for (int far = 0; far < first.length; far++) {
                roads.tune(3, far);
                desk.due("the third one first, far " + far, roads.exact() == 0, first[far] == 0);
            }
            Desk.book(roads, "b c=d 0");
            Desk.fluency(roads, "^ d 0;d a 0;a $ 0");
            roads.tune(3, 2);
            desk.due("behind two places it is three back", roads.exact() == 0, false);
            roads.tune(3, 3);
            desk.due("far 3", roads.exact(), 0);
        });
        document.holds(21, "so that each PLACE is covered by just one STEP, and each START is FAR at most away", () -> {
            for (int size = 0; size <= 6; size++) {
                PhraseRoads roads = new PhraseRoads();
                Desk.sentence(roads, "a b c d e f".substring(0, Math.max(0, 2 * size - 1)));
                for (int far = 0; far <= 6; far++) {
                    roads.tune(3, far);
                    desk.due(size + " words, far " + far, roads.many(), orders(size, far, 0, 0));
                }
            }
            PhraseRoads roads = new PhraseRoads();
            Desk.book(roads, "a a=1;a a a=1");
            Desk.sentence(roads, "a a a a");
            roads.tune(3, 0);
            desk.due("parts of four in order: 1, 2 or 3 each", roads.many(), 7);
        });
    }

    private void costs() {
        document.holds(23, "JUMP times how far its START is away from the place behind the STEP before", () -> {
            PhraseRoads roads = tuned(0, 0, 20);
            Desk.fluency(roads, "^ a 99;a b 99");
            Desk.sentence(roads, "a b");
            way(roads, 0, 60, 1, 99, 0, 99);
            desk.due("one place on", roads.step(0, 0, 2), 20);
            desk.due("two places back", roads.step(0, 1, 2), 40);
            roads.tune(2, 0);
            desk.due("for nothing", roads.way(0, 0), 0);
        });
        document.holds(23, "FLUENCY of each WORD of its TARGET behind the WORD of the TEXT ahead of it (THE BEGIN ahead of all)", () -> {
            PhraseRoads roads = tuned(99, 99, 0, 0);
            Desk.book(roads, "a=1;b=x y z 2;c=3;d=x 4");
            Desk.fluency(roads, "^ x 10;x y 11;y z 12;z x 13;x $ 14;^ $ 15;z $ 16");
            Desk.sentence(roads, "a b c d");
            way(roads, 0, 1 + (2 + 10 + 11 + 12) + 3 + (4 + 13) + 14, 0, 0, 1, 1, 2, 2, 3, 3);
            row("costs of steps", new int[] {1, 35, 3, 17}, n -> roads.step(0, n, 2));
            desk.due("words", roads.way(0, 2), 4);
            Desk.sentence(roads, "a b a");
            desk.due("the end behind the last word of the text, not of the step", roads.exact(), 1 + 35 + 1 + 16);
        });
        document.holds(20, "COST of a WAY: of its STEPS, and FLUENCY of THE END behind the last WORD of its TEXT (behind THE BEGIN without any).", () -> {
            PhraseRoads roads = tuned(50, 99, 0);
            Desk.book(roads, "a=1;b=2");
            Desk.fluency(roads, "^ $ 7");
            Desk.sentence(roads, "a b");
            way(roads, 0, 10, 0, 0, 1, 1);
            desk.due("no words", roads.way(0, 2), 0);
            desk.due("no word", roads.word(0, 0), -1);
            roads.tune(0, 0);
            Desk.fluency(roads, "^ $ 96");
            desk.due("the end behind the begin", roads.exact(), 1 + 2 + 96);
            Desk.fluency(roads, "^ $ 98");
            desk.due("to pass b is cheaper", roads.exact(), 1 + 99);
            roads.tune(1, 1);
            desk.due("to pass b is cheaper still", roads.exact(), 1 + 1);
        });
    }

    private void emptySentence() {
        document.holds(22, "(THE SENTENCE without WORDS has one WAY, without STEPS.)", () -> {
            for (int end : new int[] {0, 99}) {
                PhraseRoads roads = new PhraseRoads();
                Desk.book(roads, "a=b 1");
                Desk.fluency(roads, "^ $ " + end);
                desk.due("exact", roads.exact(), end);
                desk.due("many", roads.many(), 1);
                row("way 0", new int[] {end, 0, 0}, what -> roads.way(0, what));
                row("no way 1", new int[] {-1, -1, -1}, what -> roads.way(1, what));
                row("no step", new int[] {-1, -1, -1}, what -> roads.step(0, 0, what));
                desk.due("no word", roads.word(0, 0), -1);
                row("found", new int[] {end, 0, 0, 0, 0}, roads::found);
                desk.due("no step of found", roads.halves(0, 0), -1);
                desk.due("stack 0", roads.stack(0, 0), 1);
                desk.due("its score", roads.stack(0, 1), 0);
                desk.index("no stack 1", () -> roads.stack(1, 0));
                desk.due("agreed", roads.agreed(10), 0);
                desk.due("needed", roads.needed(), 0);
                desk.due("idle", roads.idle(), 1);
                desk.due("reach", roads.reach(), 0);
                desk.due("width", roads.width(), 1);
                desk.right(roads, "forced", "", end);
                desk.right(roads, "forced", "b", -1);
                desk.right(roads, "near", "", 0);
                desk.right(roads, "near", "b", 1);
                desk.right(roads, "match 1", "b", 0);
                desk.right(roads, "tuned", "b", 0);
            }
        });
    }

    private void order() {
        document.holds(22, "WAYS are ordered by COST, then by the first STEP in which they are unlike, by START, then by OPTION (the lesser number ahead)", () -> {
            PhraseRoads roads = tuned(0, 1, 0);
            Desk.book(roads, "b=x 1;a b=y 2;a=z 1");
            Desk.sentence(roads, "a b");
            desk.due("nine", roads.many(), 9);
            way(roads, 0, 2, 0, 1);
            way(roads, 1, 2, 0, 2, 1, 0);
            way(roads, 2, 2, 0, 2, 1, 99);
            way(roads, 3, 2, 0, 99, 1, 0);
            way(roads, 4, 2, 0, 99, 1, 99);
            way(roads, 5, 2, 1, 0, 0, 2);
            way(roads, 6, 2, 1, 0, 0, 99);
            way(roads, 7, 2, 1, 99, 0, 2);
            way(roads, 8, 2, 1, 99, 0, 99);
            desk.due("no tenth", roads.way(9, 0), -1);
            roads.price(1, 3);
            way(roads, 0, 2, 0, 2, 1, 0);
            way(roads, 8, 3, 0, 1);
            Desk.fluency(roads, "z $ 1");
            way(roads, 0, 2, 0, 2, 1, 0);
            way(roads, 4, 2, 1, 0, 0, 99);
            way(roads, 5, 2, 1, 99, 0, 99);
            way(roads, 6, 3, 0, 1);
            way(roads, 7, 3, 1, 0, 0, 2);
            way(roads, 8, 3, 1, 99, 0, 2);
        });
        document.holds(22, "the K-th WAY (0 the first)", () -> {
            PhraseRoads roads = tuned(0, 99, 0, 0);
            thirty(roads, 5);
            Desk.sentence(roads, "a");
            for (int k = 0; k < 30; k++) {
                way(roads, k, 5, 0, k);
            }
            roads.price(29, 4);
            way(roads, 0, 4, 0, 29);
            way(roads, 1, 5, 0, 0);
            way(roads, 29, 5, 0, 28);
        });
    }

    /** Thirty phrases for the first word, or for all of six: as much as the ways can have to look at. */
    private void mostWays() {
        document.holds(22, "Of the k-th WAY (0 to 29)", () -> {
            PhraseRoads roads = tuned(99, 99, 20, 0);
            thirty(roads, 99);
            Desk.sentence(roads, "a b c d e f");
            way(roads, 29, 6 * 99 + 7 * 99, 0, 29, 1, 99, 2, 99, 3, 99, 4, 99, 5, 99);
            way(roads, 0, 6 * 99 + 7 * 99, 0, 0, 1, 99, 2, 99, 3, 99, 4, 99, 5, 99);
            roads.drop(29, true);
            way(roads, 29, 6 * 99 + 7 * 99, 0, 99, 1, 99, 2, 99, 3, 99, 4, 99, 5, 99);
            roads.drop(28, true);
            desk.due("no thirtieth", roads.way(29, 0), -1);
        });
        document.holds(22, "Of the k-th WAY (0 to 29)", () -> {
            PhraseRoads roads = tuned(0, 1, 0, 0);
            thirty(roads, 0);
            roads.drop(0, true);
            Desk.sentence(roads, "a pa");
            way(roads, 28, 1, 0, 29, 1, 99);
            way(roads, 29, 2, 0, 99, 1, 99);
            PhraseRoads last = tuned(0, 1, 0, 0);
            Desk.book(last, "b=x 5;a=ba 0;a=bb 0;a=bc 0;a=bd 0;a=be 0;a=bf 0;a=bg 0;a=bh 0;a=bi 0");
            Desk.book(last, "a=ca 0;a=cb 0;a=cc 0;a=cd 0;a=ce 0;a=cf 0;a=cg 0;a=ch 0;a=ci 0;a=cj 0");
            Desk.book(last, "a=da 0;a=db 0;a=dc 0;a=dd 0;a=de 0;a=df 0;a=dg 0;a=dh 0;a=di 0;a=dj 0");
            Desk.sentence(last, "a b");
            way(last, 28, 1, 0, 29, 1, 99);
            way(last, 29, 2, 0, 99, 1, 99);
        });
        document.holds(22, "WAYS are ordered by COST", () -> {
            PhraseRoads roads = tuned(0, 99, 0, 0);
            thirty(roads, 0);
            for (int phrase = 0; phrase < 30; phrase++) {
                roads.price(phrase, 30 - phrase);
            }
            Desk.sentence(roads, "a a");
            int k = 0;
            for (int cost = 2; k < 30; cost++) {
                for (int one = 0; one < 30 && k < 30; one++) {
                    int other = 60 - cost - one;
                    if (other >= 0 && other < 30) {
                        way(roads, k, cost, 0, one, 1, other);
                        k++;
                    }
                }
            }
        });
        document.holds(22, "the K-th WAY (0 the first)", () -> {
            PhraseRoads roads = tuned(0, 99, 1);
            thirty(roads, 9);
            Desk.sentence(roads, "a a a a a a");
            desk.due("186 options", roads.option(5, 30), 99);
            way(roads, 29, 54, 0, 0, 1, 0, 2, 0, 3, 0, 4, 0, 5, 29);
            desk.due("found", roads.found(0), 54);
            desk.due("31 of each of six, then of 8 of each stack", roads.found(2), 186 + 8 * 31 * (5 + 4 + 3 + 2 + 1));
            desk.right(roads, "forced", "rj rj rj rj rj rj", 54);
            desk.right(roads, "forced", "rj rj rj rj rj a", 45 + 99);
            desk.due("needed", roads.needed(), 0);
            desk.due("reach", roads.reach(), 0);
            desk.due("width", roads.width(), 1);
        });
    }

    private void many() {
        document.holds(21, "MANY: how many WAYS there are (1000000000 at most).", () -> {
            PhraseRoads roads = new PhraseRoads();
            thirty(roads, 1);
            Desk.sentence(roads, "a a a a a a");
            desk.due("720 orders of 31 options each", roads.many(), AT_MOST);
            roads.tune(3, 0);
            desk.due("31 options each, in order", roads.many(), 887503681);
            Desk.book(roads, "");
            roads.tune(3, 1);
            desk.due("far 1 is no more", roads.many(), 887503681);
            roads.tune(3, 2);
            desk.due("far 2 is more", roads.many(), AT_MOST);
            roads.tune(3, 6);
            for (int phrase = 9; phrase < 30; phrase++) {
                roads.drop(phrase, true);
            }
            desk.due("720 orders of 10 options each", roads.many(), 720000000);
            roads.drop(9, false);
            desk.due("720 orders of 11 options each", roads.many(), AT_MOST);
            Desk.sentence(roads, "a a a a a");
            desk.due("120 orders of 11 options each", roads.many(), 120 * 161051);
        });
    }

    private void noSuchWay() {
        document.holds(22, "Of the k-th WAY (0 to 29) what 0 COST, 1 STEPS, 2 WORDS of its TEXT; NONE without such a WAY.", () -> {
            PhraseRoads roads = tuned(0, 1, 1);
            Desk.sentence(roads, "a b c d");
            desk.due("24 ways", roads.many(), 24);
            row("the last one", new int[] {roads.way(23, 0), 4, 4}, what -> roads.way(23, what));
            desk.due("is dear", roads.way(23, 0) > roads.way(0, 0), true);
            for (int k = 24; k < 30; k++) {
                int none = k;
                row("no way " + k, new int[] {-1, -1, -1}, what -> roads.way(none, what));
            }
            desk.argument("30", () -> roads.way(30, 0));
            Desk.sentence(roads, "a b c d e");
            desk.due("the thirtieth of 120", roads.way(29, 1), 5);
        });
        document.holds(23, "Of the n-th STEP of the k-th WAY (0 to 29) what 0 START, 1 OPTION, 2 COST; NONE without such a WAY or STEP.", () -> {
            PhraseRoads roads = tuned(0, 1, 1);
            Desk.book(roads, "a b=x 2");
            Desk.sentence(roads, "a b");
            way(roads, 0, 2, 0, 0);
            way(roads, 1, 2, 0, 99, 1, 99);
            way(roads, 2, 5, 1, 99, 0, 99);
            for (int what = 0; what < 3; what++) {
                int told = what;
                for (int n : new int[] {-1, 2, 6, Integer.MIN_VALUE, Integer.MAX_VALUE}) {
                    desk.due("step(1, " + n + ", " + what + ")", roads.step(1, n, told), -1);
                }
                desk.due("no second step of the first way", roads.step(0, 1, told), -1);
                desk.due("no way 3", roads.step(3, 0, told), -1);
                desk.due("no way 29", roads.step(29, 0, told), -1);
            }
        });
        document.holds(24, "The n-th WORD of the TEXT of the k-th WAY (0 to 29); NONE without such a WAY or WORD.", () -> {
            PhraseRoads roads = tuned(0, 99, 0);
            Desk.book(roads, "a=x y z 0");
            Desk.sentence(roads, "a a a a a a");
            desk.due("eighteen words", roads.way(0, 2), 18);
            for (int n = 0; n < 18; n++) {
                desk.due("word(0, " + n + ")", roads.word(0, n), 1 + n % 3);
            }
            for (int n : new int[] {-1, 18, 19, Integer.MIN_VALUE, Integer.MAX_VALUE}) {
                desk.due("word(0, " + n + ")", roads.word(0, n), -1);
            }
            Desk.sentence(roads, "a");
            desk.due("two ways", roads.word(1, 0), 0);
            desk.due("one word alone", roads.word(1, 1), -1);
            desk.due("no third way", roads.word(2, 0), -1);
            desk.due("no thirtieth way", roads.word(29, 0), -1);
        });
    }

    private void stretches() {
        document.holds(19, "STRETCH of two PLACES (from the one to the other one, both too)", () -> {
            PhraseRoads roads = tuned(99, 10);
            Desk.book(roads, "a b c=3;f=1;a=2");
            Desk.sentence(roads, "a b c d e f");
            desk.due("the first place", roads.stretch(0, 0), 2);
            desk.due("the last place", roads.stretch(5, 5), 1);
            desk.due("all places", roads.stretch(0, 5), 3 + 10 + 10 + 1);
            desk.due("all but the last", roads.stretch(0, 4), 23);
            desk.due("all but the first", roads.stretch(1, 5), 41);
            desk.due("just the three", roads.stretch(0, 2), 3);
            desk.due("two of the three", roads.stretch(0, 1), 12);
            desk.due("one and one more", roads.stretch(2, 3), 20);
        });
        document.holds(19, "COST of an OPTION that covers just these, and FLUENCY of each WORD of its TARGET but the first one behind the one ahead of it", () -> {
            PhraseRoads roads = tuned(99, 99, 0);
            Desk.book(roads, "a=x 1;b=x y 2;c=x y z 3;d=4");
            Desk.fluency(roads, "x y 10;y z 20;^ x 7;z x 8");
            Desk.sentence(roads, "a b c d");
            row("targets of one, two, three, no words", new int[] {1, 12, 33, 4}, place -> roads.stretch(place, place));
            desk.due("nothing between them", roads.stretch(0, 3), 50);
        });
        document.holds(19, "or STRETCHES of two parts, one behind the other one, together", () -> {
            PhraseRoads roads = tuned(0, 20);
            Desk.book(roads, "a b=9;b c=8;c d=7;a b c=30;b c d=31");
            Desk.sentence(roads, "a b c d");
            desk.due("two and two", roads.stretch(0, 3), 16);
            desk.due("two and one, or one and two", roads.stretch(0, 2), 28);
            desk.due("one and two", roads.stretch(1, 3), 27);
            roads.price(3, 28);
            desk.due("as much by one", roads.stretch(0, 2), 28);
            roads.price(3, 27);
            desk.due("less by one", roads.stretch(0, 2), 27);
            roads.drop(0, true);
            roads.drop(2, true);
            desk.due("one, two, one", roads.stretch(0, 3), 47);
        });
    }

    private void ahead() {
        document.holds(27, "STRETCHES of all its runs (PLACES one behind another, as many as there are) together", () -> {
            PhraseRoads roads = tuned(0, 10, 0);
            Desk.book(roads, "a b=x 1;b c=y 2;a b c=z 3");
            Desk.sentence(roads, "a b c");
            row("least scores", new int[] {3, 11, 11, 3}, n -> roads.stack(n, 1));
            roads.drop(2, true);
            row("least scores without the third", new int[] {11, 11, 11, 11}, n -> roads.stack(n, 1));
            roads.drop(0, true);
            roads.drop(1, true);
            Desk.book(roads, "a=0;c=0");
            row("two runs beside the middle one", new int[] {10, 10, 10, 10}, n -> roads.stack(n, 1));
            roads.tune(1, 0);
            row("all for nothing", new int[] {0, 0, 0, 0}, n -> roads.stack(n, 1));
            PhraseRoads middle = tuned(20, 10, 0);
            Desk.fluency(middle, "^ b 0;b d 0");
            Desk.sentence(middle, "a b c");
            row("the middle one first, then two runs of one", new int[] {30, 30, 50, 70}, n -> middle.stack(n, 1));
            Desk.sentence(middle, "a b c d e");
            row("runs of one and three, of one, one and one", new int[] {50, 50, 50, 70, 90, 110}, n -> middle.stack(n, 1));
        });
        document.holds(27, "its SCORE: COST of its STEPS, and AHEAD of what it does not cover", () -> {
            PhraseRoads roads = tuned(0, 10, 5, 0);
            Desk.fluency(roads, "^ a 3;a b 4;b $ 50");
            Desk.sentence(roads, "a b");
            row("scores without the end", new int[] {20, 23, 27}, n -> roads.stack(n, 1));
            roads.tune(3, 6);
            row("the other order is dearer", new int[] {20, 23, 27}, n -> roads.stack(n, 1));
            roads.tune(2, 0);
            row("or cheaper", new int[] {20, 20, 20}, n -> roads.stack(n, 1));
        });
    }

    private void wide() {
        document.holds(25, "WIDE of them stay, the others are CUT", () -> {
            PhraseRoads roads = tuned(0, 0, 0);
            Desk.sentence(roads, "a b c");
            int[] made = {6, 9, 12, 13, 14, 15};
            int[] merged = {0, 0, 1, 1, 2, 3};
            int[] cut = {3, 3, 3, 2, 1, 0};
            int[] second = {2, 4, 6, 6, 6, 6};
            for (int wide = 1; wide <= 40; wide++) {
                roads.tune(4, wide);
                int i = Math.min(wide, 6) - 1;
                desk.due("made, wide " + wide, roads.found(2), made[i]);
                desk.due("merged, wide " + wide, roads.found(3), merged[i]);
                desk.due("cut, wide " + wide, roads.found(4), cut[i]);
                desk.due("first stack ahead of cutting, wide " + wide, roads.stack(1, 0), 3);
                desk.due("second stack ahead of cutting, wide " + wide, roads.stack(2, 0), second[i]);
            }
        });
        document.holds(25, "its HALVES in the order of SCORE (of like SCORE in the order in which they were made)", () -> {
            PhraseRoads roads = tuned(0, 0, 0, 6, 1);
            Desk.sentence(roads, "a b c");
            row("of like score the first ones", new int[] {0, 1, 2}, n -> roads.halves(n, 0));
            Desk.fluency(roads, "^ a 1;b c 1");
            row("the least score", new int[] {1, 0, 2}, n -> roads.halves(n, 0));
            Desk.fluency(roads, "^ b 1");
            row("the least score is the third's", new int[] {2, 0, 1}, n -> roads.halves(n, 0));
            Desk.book(roads, "c=x 0");
            row("the lesser option is made first", new int[] {0, 99, 99}, n -> roads.halves(n, 1));
        });
        document.holds(25, "Stack by stack from 0 on, but the last one", () -> {
            PhraseRoads roads = tuned(0, 0, 0, 6, 1);
            thirty(roads, 0);
            Desk.sentence(roads, "a");
            desk.due("all lie on the last one", roads.stack(1, 0), 31);
            desk.due("none is cut there", roads.found(4), 0);
            Desk.fluency(roads, "^ $ 0");
            Desk.sentence(roads, "a a");
            desk.due("one of the first stack stays", roads.found(4), 61);
            desk.due("62 and 31 were made", roads.found(2), 93);
        });
    }

    private void merged() {
        document.holds(25, "if one lies there that covers the same PLACES, has the same last WORD of its TEXT (or none of both) "
                + "and the same place behind its last STEP, both are MERGED", () -> {
            PhraseRoads roads = tuned(0, 99, 0, 0, 40);
            Desk.book(roads, "a=1;b=1;a b=2");
            Desk.sentence(roads, "a b");
            row("none of both, and b twice", new int[] {2, 1, 7, 2, 0}, roads::found);
            desk.due("none, a, b", roads.stack(2, 0), 3);
            PhraseRoads words = tuned(0, 99, 0, 0, 40);
            Desk.book(words, "a=x 1;a=y x 2;a=x y 3;a=4");
            Desk.sentence(words, "a");
            row("x twice", new int[] {1, 1, 5, 1, 0}, words::found);
            desk.due("x, y, none, a", words.stack(1, 0), 4);
            PhraseRoads behind = tuned(0, 0, 0, 6, 40);
            Desk.book(behind, "a=x 0;b=x 0");
            Desk.sentence(behind, "a b");
            desk.due("x behind either place, and a, and b", behind.stack(2, 0), 4);
            desk.due("each of them twice", behind.found(3), 4);
            desk.due("four, and two of each of these", behind.found(2), 12);
        });
        document.holds(25, "the one of less COST stays, of like COST the one that was made first", () -> {
            for (int cost = 0; cost <= 4; cost++) {
                PhraseRoads roads = tuned(0, 99, 0, 0, 40);
                Desk.book(roads, "a=1;b=1;a b=" + cost);
                Desk.sentence(roads, "a b");
                desk.due("steps, where two words cost " + cost, roads.found(1), cost <= 2 ? 1 : 2);
                desk.due("cost", roads.found(0), Math.min(2, cost));
                desk.due("merged either way", roads.found(3), 2);
            }
        });
    }

    private void found() {
        document.holds(25, "of the last stack the one of the least COST with FLUENCY of THE END (of several the one made first), with that COST", () -> {
            PhraseRoads roads = tuned(0, 99, 0, 0, 1);
            Desk.book(roads, "a=x 1;a=y 2;a=z 1");
            Desk.sentence(roads, "a");
            desk.due("of several the first", roads.halves(0, 1), 0);
            Desk.fluency(roads, "x $ 1");
            desk.due("the end counts", roads.halves(0, 1), 2);
            desk.due("its cost", roads.found(0), 1);
            Desk.fluency(roads, "z $ 1");
            desk.due("again several", roads.halves(0, 1), 0);
            desk.due("their cost", roads.found(0), 2);
            Desk.fluency(roads, "x $ 99;z $ 99");
            desk.due("the dearer one ends cheaper", roads.halves(0, 1), 1);
        });
        document.holds(25, "HALVES that were MADE (without the first one)", () -> {
            PhraseRoads roads = new PhraseRoads();
            desk.due("none of no words", roads.found(2), 0);
            Desk.sentence(roads, "a");
            desk.due("one of one word", roads.found(2), 1);
        });
        document.holds(26, "Of the n-th STEP of FOUND what 0 START, 1 OPTION; NONE without.", () -> {
            PhraseRoads roads = tuned(0, 0, 0);
            Desk.sentence(roads, "a b c d e f");
            for (int n = 0; n < 6; n++) {
                desk.due("start of " + n, roads.halves(n, 0), n);
                desk.due("option of " + n, roads.halves(n, 1), 99);
            }
            for (int n : new int[] {-1, 6, 7, Integer.MIN_VALUE, Integer.MAX_VALUE}) {
                desk.due("halves(" + n + ", 0)", roads.halves(n, 0), -1);
                desk.due("halves(" + n + ", 1)", roads.halves(n, 1), -1);
            }
            Desk.sentence(roads, "a");
            desk.due("no second step", roads.halves(1, 0), -1);
        });
    }

    /** The only half that stays takes the second place first, and far lets it not back. */
    static PhraseRoads nowhere() {
        PhraseRoads roads = tuned(20, 0, 2, 1, 1);
        Desk.fluency(roads, "^ b 0");
        Desk.sentence(roads, "a b c");
        return roads;
    }

    private void nothingFound() {
        document.holds(25, "none, if nothing lies there (all that stayed may have jumped where FAR lets nobody back)", () -> {
            PhraseRoads roads = nowhere();
            row("nothing", new int[] {-1, -1, 3, 0, 1}, roads::found);
            desk.due("a way there is", roads.many(), 1);
            desk.due("its cost", roads.exact(), 80);
            roads.tune(4, 2);
            row("with one more", new int[] {80, 3, 6, 0, 1}, roads::found);
        });
        document.holds(25, "NONE of 0 and 1 without FOUND.", () -> {
            PhraseRoads roads = nowhere();
            desk.due("no cost", roads.found(0), -1);
            desk.due("no steps", roads.found(1), -1);
        });
        document.holds(26, "NONE without.", () -> {
            PhraseRoads roads = nowhere();
            for (int n = 0; n < 4; n++) {
                desk.due("no start", roads.halves(n, 0), -1);
                desk.due("no option", roads.halves(n, 1), -1);
            }
        });
        document.holds(27, "the least SCORE of these; NONE without any.", () -> {
            PhraseRoads roads = nowhere();
            row("how many", new int[] {1, 2, 1, 0}, n -> roads.stack(n, 0));
            row("least", new int[] {0, 2, 22, -1}, n -> roads.stack(n, 1));
            PhraseRoads whole = tuned(0, 99, 0, 0);
            Desk.book(whole, "a b=x 1");
            Desk.sentence(whole, "a b");
            row("one step alone is better, but one word lies between", new int[] {1, 1, 2}, n -> whole.stack(n, 0));
        });
    }

    private void stacks() {
        document.holds(27, "Of stack n (0 to WORDS of THE SENTENCE) what 0 how many HALVES lay on it ahead of any being CUT", () -> {
            PhraseRoads roads = tuned(0, 0, 0, 6, 1);
            Desk.sentence(roads, "a b c d e f");
            row("each with one less", new int[] {1, 6, 5, 4, 3, 2, 1}, n -> roads.stack(n, 0));
            desk.index("no stack 7", () -> roads.stack(7, 0));
            desk.due("cut", roads.found(4), 5 + 4 + 3 + 2 + 1);
            roads.tune(4, 30);
            Desk.sentence(roads, "a b c d e");
            row("as many as stay", new int[] {1, 5, 20, 30, 20, 5}, n -> roads.stack(n, 0));
            desk.due("none cut", roads.found(4), 0);
            roads.tune(4, 29);
            row("one fewer", new int[] {1, 5, 20, 30}, n -> roads.stack(n, 0));
            desk.due("one cut", roads.found(4), 1);
            Desk.sentence(roads, "a");
            row("of one word", new int[] {1, 1}, n -> roads.stack(n, 0));
            desk.index("no stack 2 any more", () -> roads.stack(2, 0));
        });
    }
}
