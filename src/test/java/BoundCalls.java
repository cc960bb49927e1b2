import java.util.NoSuchElementException;
import java.util.function.ToIntFunction;

/** Boundary cases of what is held and told: promises 9 to 17 and 37 to 39, and refused calls of all promises. */
final class BoundCalls {
    private static final int[] FAR_OFF = {-2, -3, Integer.MIN_VALUE, Integer.MIN_VALUE + 1, 1000, Integer.MAX_VALUE};
    private final Sentences document;
    private final Desk desk;
    private final Unchanged unchanged;

    BoundCalls(Sentences document) {
        this.document = document;
        this.desk = document.desk;
        this.unchanged = new Unchanged(desk);
    }

    void all() {
        rows();
        fluencies();
        places();
        prices();
        drops();
        tunes();
        counts();
        images();
        noSuchThing();
        noSuchWhat();
        noSuchNumber();
        toldFirst();
        nothingHappens();
        wouldBe();
        nothingStale();
    }

    /** Refused with just this exception, and nothing is changed by it but what may be. */
    private void refused(String name, Class<? extends RuntimeException> want, int exempt, ToIntFunction<PhraseRoads> call) {
        desk.refused(name, want, () -> call.applyAsInt(Unchanged.scene()));
        desk.refused(name + " of a warm one", want, () -> call.applyAsInt(Unchanged.warmScene()));
        unchanged.by(name, exempt, call::applyAsInt);
    }

    private void index(String name, ToIntFunction<PhraseRoads> call) {
        refused(name, IndexOutOfBoundsException.class, Unchanged.NOTHING, call);
    }

    private void element(String name, ToIntFunction<PhraseRoads> call) {
        refused(name, NoSuchElementException.class, Unchanged.NOTHING, call);
    }

    private void argument(String name, ToIntFunction<PhraseRoads> call) {
        refused(name, IllegalArgumentException.class, Unchanged.NOTHING, call);
    }

    private void rows() {
        document.holds(9, "The k-th letter of a WORD (0 for a); NONE without.", () -> {
            PhraseRoads roads = new PhraseRoads();
            Desk.sentence(roads, "a zyxwvuts");
            desk.due("a", roads.letter(0, 0), 0);
            desk.due("behind a", roads.letter(0, 1), -1);
            desk.due("z", roads.letter(1, 0), 25);
            desk.due("the eighth", roads.letter(1, 7), 18);
            for (int k : new int[] {-1, 8, 9, Integer.MIN_VALUE, Integer.MAX_VALUE}) {
                desk.due("letter(1, " + k + ")", roads.letter(1, k), -1);
            }
        });
        document.holds(11, "The k-th WORD of SOURCE (target false), or TARGET of a PHRASE; NONE without.", () -> {
            PhraseRoads roads = new PhraseRoads();
            Desk.book(roads, "a b c=d e f 1;a=1;b=g 1;c=h i 1");
            for (int k = 0; k < 3; k++) {
                desk.due("source " + k, roads.part(0, false, k), k);
                desk.due("target " + k, roads.part(0, true, k), 3 + k);
                desk.due("empty target " + k, roads.part(1, true, k), -1);
            }
            desk.due("source of one", roads.part(1, false, 0), 0);
            desk.due("behind the source of one", roads.part(1, false, 1), -1);
            desk.due("target of one", roads.part(2, true, 0), 6);
            desk.due("behind the target of one", roads.part(2, true, 1), -1);
            desk.due("behind the target of two", roads.part(3, true, 2), -1);
            for (int k : new int[] {-1, 3, 4, Integer.MIN_VALUE, Integer.MAX_VALUE}) {
                desk.due("part(0, false, " + k + ")", roads.part(0, false, k), -1);
                desk.due("part(0, true, " + k + ")", roads.part(0, true, k), -1);
            }
            roads.drop(0, true);
            desk.due("of one gone, too", roads.part(0, true, 2), 5);
        });
        document.holds(10, "Of a PHRASE what 0 WORDS of its SOURCE, 1 of its TARGET, 2 COST, 3 1 if it is GONE, "
                + "4 at how many PLACES it is an OPTION, 5 WORTH.", () -> {
            PhraseRoads roads = new PhraseRoads();
            Desk.book(roads, "a=0;a a a=b c d 99");
            Desk.sentence(roads, "a a a a a a");
            int[] first = {1, 0, 0, 0, 6};
            int[] second = {3, 3, 99, 0, 4};
            for (int what = 0; what < 5; what++) {
                desk.due("phrase(0, " + what + ")", roads.phrase(0, what), first[what]);
                desk.due("phrase(1, " + what + ")", roads.phrase(1, what), second[what]);
            }
            roads.drop(0, true);
            int[] gone = {1, 0, 0, 1, 0, 0};
            for (int what = 0; what < 6; what++) {
                desk.due("gone: phrase(0, " + what + ")", roads.phrase(0, what), gone[what]);
            }
            Desk.sentence(roads, "a a");
            desk.due("too long for the sentence", roads.phrase(1, 4), 0);
            Desk.sentence(roads, "");
            desk.due("no place at all", roads.phrase(1, 4), 0);
            desk.due("no worth without a sentence", roads.phrase(1, 5), 0);
        });
    }

    private void fluencies() {
        document.holds(12, "FLUENCY (first NONE: THE BEGIN; second NONE: THE END).", () -> {
            PhraseRoads roads = new PhraseRoads();
            desk.due("of a new one", roads.after(-1, -1), 20);
            desk.index("no word yet", () -> roads.after(0, -1));
            desk.index("no word yet behind", () -> roads.after(-1, 0));
            Desk.fluency(roads, "a b 0;^ b 99;a $ 1;^ $ 2");
            desk.due("told 0", roads.after(0, 1), 0);
            desk.due("told 99", roads.after(-1, 1), 99);
            desk.due("the end", roads.after(0, -1), 1);
            desk.due("the begin", roads.after(-1, -1), 2);
            desk.due("not told", roads.after(1, 0), 20);
            desk.due("not told behind the begin", roads.after(-1, 0), 20);
            desk.due("not told ahead of the end", roads.after(1, -1), 20);
        });
    }

    private void places() {
        document.holds(13, "The WORD at a PLACE.", () -> {
            PhraseRoads roads = new PhraseRoads();
            desk.index("no place yet", () -> roads.place(0));
            Desk.sentence(roads, "f e d c b a");
            Desk.sentence(roads, "a b c d e f");
            for (int place = 0; place < 6; place++) {
                desk.due("place(" + place + ")", roads.place(place), 5 - place);
            }
            desk.index("no seventh", () -> roads.place(6));
            Desk.sentence(roads, "c");
            desk.due("the only one", roads.place(0), 3);
            desk.index("no longer", () -> roads.place(1));
        });
        document.holds(14, "Another WORD is at a PLACE of THE SENTENCE: which was.", () -> {
            PhraseRoads roads = new PhraseRoads();
            Desk.book(roads, "a=x 1;b=y 2");
            Desk.sentence(roads, "a b a b a b");
            desk.due("at the first place", roads.put(0, 3), 0);
            desk.due("at the last place", roads.put(5, 1), 2);
            desk.due("the same again", roads.put(5, 1), 1);
            desk.due("is there", roads.place(5), 1);
            desk.due("beside it nothing", roads.place(4), 0);
            desk.due("as many as before", roads.count(3), 6);
            desk.due("as many words as before", roads.count(0), 4);
            desk.due("no longer an option there", roads.option(5, 0), 99);
            Desk.sentence(roads, "");
            desk.index("no place of an empty one", () -> roads.put(0, 0));
        });
    }

    private void prices() {
        document.holds(15, "COST of a PHRASE is told (also of one GONE): what it was.", () -> {
            PhraseRoads roads = new PhraseRoads();
            Desk.book(roads, "a=x 7");
            desk.due("was 7", roads.price(0, 0), 7);
            desk.due("was 0", roads.price(0, 99), 0);
            desk.due("was 99", roads.price(0, 99), 99);
            roads.drop(0, true);
            desk.due("of one gone", roads.price(0, 5), 99);
            desk.due("its cost", roads.phrase(0, 2), 5);
            desk.due("gone still", roads.phrase(0, 3), 1);
            roads.drop(0, false);
            desk.due("there again", roads.phrase(0, 2), 5);
        });
        document.holds(15, "IllegalArgumentException: n is none (0 to 99).", () -> {
            for (int n : new int[] {-1, 100, Integer.MIN_VALUE, Integer.MAX_VALUE}) {
                argument("price(0, " + n + ")", roads -> roads.price(0, n));
                argument("of one gone: price(1, " + n + ")", roads -> roads.price(1, n));
            }
        });
    }

    private void drops() {
        document.holds(16, "A PHRASE is GONE (is), or is there again: whether that changed.", () -> {
            PhraseRoads roads = new PhraseRoads();
            Desk.book(roads, "a=x 7;b=x 8");
            desk.due("there already", roads.drop(0, false), false);
            desk.due("gone", roads.drop(0, true), true);
            desk.due("gone already", roads.drop(0, true), false);
            desk.due("gone still", roads.phrase(0, 3), 1);
            desk.due("one is there", roads.count(9), 1);
            desk.due("there again", roads.drop(0, false), true);
            desk.due("no longer gone", roads.phrase(0, 3), 0);
            desk.due("the other one never was", roads.phrase(1, 3), 0);
        });
        document.holds(16, "IllegalArgumentException: it is GONE and would be there again, and there is another one of its SOURCE and TARGET "
                + "that is not GONE.", () -> {
            argument("drop(3, false)", roads -> roads.drop(3, false) ? 1 : 0);
            PhraseRoads roads = new PhraseRoads();
            Desk.book(roads, "a b=x y 1");
            roads.drop(0, true);
            Desk.book(roads, "a b=x 2;a=x y 3;b a=x y 4;a b=y x 5;a b=x y z 6;a b c=x y 7;a b=8;x y=a b 9");
            desk.due("others of unlike words do not matter", roads.drop(0, false), true);
            roads.drop(0, true);
            Desk.book(roads, "a b=x y 10");
            desk.argument("another one is there", () -> roads.drop(0, false) ? 1 : 0);
            desk.due("to drop it again is no such call", roads.drop(0, true), false);
            desk.due("the other one is not gone itself", roads.drop(9, false), false);
            roads.drop(9, true);
            desk.due("both are gone: the second may", roads.drop(9, false), true);
            roads.drop(9, true);
            desk.due("or the first", roads.drop(0, false), true);
            desk.argument("then not the second", () -> roads.drop(9, false) ? 1 : 0);
            Desk.book(roads, "q=1");
            roads.drop(10, true);
            Desk.book(roads, "q=2");
            desk.argument("of empty targets, too", () -> roads.drop(10, false) ? 1 : 0);
        });
    }

    private void tunes() {
        int[] least = {0, 0, 0, 0, 1};
        int[] most = {99, 99, 20, 6, 40};
        document.holds(17, "UNSEEN (what 0), PASS (1), JUMP (2), FAR (3), WIDE (4) is told: what it was.", () -> {
            PhraseRoads roads = new PhraseRoads();
            int[] was = {20, 50, 2, 6, 8};
            for (int what = 0; what < 5; what++) {
                desk.due("least of " + what, roads.tune(what, least[what]), was[what]);
                desk.due("is told", roads.count(4 + what), least[what]);
                desk.due("most of " + what, roads.tune(what, most[what]), least[what]);
                desk.due("is told", roads.count(4 + what), most[what]);
                desk.due("the same again", roads.tune(what, most[what]), most[what]);
                for (int other = what + 1; other < 5; other++) {
                    desk.due("others stay", roads.count(4 + other), was[other]);
                }
            }
        });
        document.holds(17, "IllegalArgumentException: n is none (0 to 99, 0 to 99, 0 to 20, 0 to 6, 1 to 40).", () -> {
            for (int what = 0; what < 5; what++) {
                int told = what;
                for (int n : new int[] {least[what] - 1, most[what] + 1, Integer.MIN_VALUE, Integer.MAX_VALUE}) {
                    argument("tune(" + what + ", " + n + ")", roads -> roads.tune(told, n));
                }
            }
        });
    }

    private void counts() {
        document.holds(39, "0 WORDS, 1 PHRASES (GONE ones, too), 2 pairs of FLUENCY, 3 WORDS of THE SENTENCE, 4 UNSEEN, 5 PASS, 6 JUMP, 7 FAR, "
                + "8 WIDE, 9 PHRASES that are not GONE.", () -> {
            int[] want = {7, 7, 5, 4, 11, 12, 1, 4, 3, 5};
            PhraseRoads roads = Unchanged.scene();
            for (int what = 0; what < want.length; what++) {
                desk.due("count(" + what + ")", roads.count(what), want[what]);
            }
        });
        document.holds(39, "NONE for another what.", () -> {
            PhraseRoads roads = Unchanged.scene();
            for (int what : new int[] {-1, 10, 11, Integer.MIN_VALUE, Integer.MAX_VALUE}) {
                desk.due("count(" + what + ")", roads.count(what), -1);
            }
        });
    }

    private void images() {
        document.holds(38, "false, and nothing happens, if none was kept.", () -> {
            PhraseRoads roads = new PhraseRoads();
            desk.due("of a new one", roads.back(), false);
            Desk.book(roads, "a=x 1");
            Desk.sentence(roads, "a");
            roads.tune(4, 40);
            int exact = roads.exact();
            Desk.tape(roads, "a a");
            desk.due("none was kept", roads.back(), false);
            desk.due("the book", roads.phrase(0, 2), 1);
            desk.due("the sentence", roads.place(0), 0);
            desk.due("what was tuned", roads.count(8), 40);
            desk.due("exact", roads.exact(), exact);
            desk.due("the tape", roads.sentence(), 2);
        });
        document.holds(37, "THE IMAGE is kept.", () -> {
            PhraseRoads roads = new PhraseRoads();
            roads.image();
            Unchanged.scene();
            Desk.book(roads, "a=x 1");
            Desk.fluency(roads, "^ a 1");
            Desk.sentence(roads, "a");
            desk.due("back to the new one", roads.back(), true);
            int[] first = {0, 0, 0, 0, 20, 50, 2, 6, 8, 0};
            for (int what = 0; what < first.length; what++) {
                desk.due("count(" + what + ")", roads.count(what), first[what]);
            }
            desk.index("no place", () -> roads.place(0));
            desk.due("exact of nothing", roads.exact(), 20);
            desk.right(roads, "sentence", "b", 1);
            desk.due("words are numbered anew", roads.place(0), 0);
            roads.image();
            desk.right(roads, "sentence", "", 0);
            roads.back();
            desk.due("a newer one in place of it", roads.count(3), 1);
        });
        document.holds(38, "(but for the TAPE, fault() and THE IMAGE itself)", () -> {
            PhraseRoads roads = new PhraseRoads();
            Desk.sentence(roads, "a");
            Desk.tape(roads, "then");
            roads.image();
            desk.faulty(roads, "near", "   ?", 3);
            Desk.tape(roads, "b b");
            desk.due("back", roads.back(), true);
            desk.due("fault() stays", roads.fault(), 3);
            desk.due("the tape stays", roads.end(4), false);
            desk.due("with all that was on it", roads.end(3), true);
            desk.due("and is read", roads.sentence(), 2);
            desk.due("the image stays", roads.back(), true);
            desk.due("as it was", roads.count(3), 1);
            desk.due("and stays once more", roads.back(), true);
        });
        document.holds(38, "One goes back to THE IMAGE: true", () -> {
            PhraseRoads kept = Unchanged.scene();
            kept.back();
            int[] want = {6, 5, 4, 3, 20, 50, 3, 6, 8, 4};
            for (int what = 0; what < want.length; what++) {
                desk.due("count(" + what + ")", kept.count(what), want[what]);
            }
            int[] costs = {3, 4, 5, 6, 2};
            for (int phrase = 0; phrase < costs.length; phrase++) {
                desk.due("cost of " + phrase, kept.phrase(phrase, 2), costs[phrase]);
                desk.due("gone " + phrase, kept.phrase(phrase, 3), phrase == 3 ? 1 : 0);
            }
            desk.due("fluency", kept.after(1, 3), 2);
            desk.due("the last place", kept.place(2), 4);
            desk.index("no more words", () -> kept.letter(6, 0));
            desk.index("no more phrases", () -> kept.phrase(5, 0));
            desk.index("no more places", () -> kept.place(3));
        });
    }

    private void noSuchThing() {
        String sentence = "IndexOutOfBoundsException: there is no such WORD, PHRASE, PLACE.";
        int[] words = {-2, 7, 8, 39, 40, 41};
        int[] phrases = {-1, 7, 29, 30, 31};
        int[] spots = {-1, 4, 5, 6, 7};
        document.holds(9, sentence, () -> each(words, n -> index("letter(" + n + ", 0)", roads -> roads.letter(n, 0))));
        document.holds(9, sentence, () -> index("letter(-1, 0)", roads -> roads.letter(-1, 0)));
        document.holds(10, sentence, () -> each(phrases, n -> index("phrase(" + n + ", 2)", roads -> roads.phrase(n, 2))));
        document.holds(11, sentence, () -> each(phrases, n -> index("part(" + n + ", true, 0)", roads -> roads.part(n, true, 0))));
        document.holds(12, sentence, () -> each(words, n -> {
            index("after(" + n + ", -1)", roads -> roads.after(n, -1));
            index("after(-1, " + n + ")", roads -> roads.after(-1, n));
        }));
        document.holds(13, sentence, () -> each(spots, n -> index("place(" + n + ")", roads -> roads.place(n))));
        document.holds(14, sentence, () -> each(spots, n -> index("put(" + n + ", 0)", roads -> roads.put(n, 0))));
        document.holds(14, sentence, () -> each(words, n -> index("put(0, " + n + ")", roads -> roads.put(0, n))));
        document.holds(14, sentence, () -> index("put(0, -1)", roads -> roads.put(0, -1)));
        document.holds(15, sentence, () -> each(phrases, n -> index("price(" + n + ", 1)", roads -> roads.price(n, 1))));
        document.holds(16, sentence, () -> each(phrases, n -> {
            index("drop(" + n + ", true)", roads -> roads.drop(n, true) ? 1 : 0);
            index("drop(" + n + ", false)", roads -> roads.drop(n, false) ? 1 : 0);
        }));
        document.holds(18, sentence, () -> each(spots, n -> index("option(" + n + ", 0)", roads -> roads.option(n, 0))));
        document.holds(19, sentence, () -> each(spots, n -> {
            index("stretch(" + n + ", 3)", roads -> roads.stretch(n, 3));
            index("stretch(0, " + n + ")", roads -> roads.stretch(0, n));
        }));
        document.holds(27, "IndexOutOfBoundsException: there is no such stack", () -> each(new int[] {-1, 5, 6, 7, 8}, n -> {
            index("stack(" + n + ", 0)", roads -> roads.stack(n, 0));
            index("stack(" + n + ", 1)", roads -> roads.stack(n, 1));
        }));
    }

    /** Those told, and such as are far off. */
    private static void each(int[] numbers, java.util.function.IntConsumer look) {
        for (int n : numbers) {
            look.accept(n);
        }
        for (int n : FAR_OFF) {
            look.accept(n);
        }
    }

    private void noSuchWhat() {
        String sentence = "NoSuchElementException: another what.";
        document.holds(10, sentence, () -> each(new int[] {-1, 6, 7}, n -> element("phrase(0, " + n + ")", roads -> roads.phrase(0, n))));
        document.holds(17, "NoSuchElementException: another what;", () -> each(new int[] {-1, 5, 6}, n -> element("tune(" + n + ", 1)", roads -> roads.tune(n, 1))));
        document.holds(22, "NoSuchElementException: another what;", () -> each(new int[] {-1, 3, 4}, n -> element("way(0, " + n + ")", roads -> roads.way(0, n))));
        document.holds(23, "NoSuchElementException: another what;", () -> each(new int[] {-1, 3, 4}, n -> element("step(0, 0, " + n + ")", roads -> roads.step(0, 0, n))));
        document.holds(25, sentence, () -> each(new int[] {-1, 5, 6}, n -> element("found(" + n + ")", roads -> roads.found(n))));
        document.holds(26, sentence, () -> each(new int[] {-1, 2, 3}, n -> element("halves(0, " + n + ")", roads -> roads.halves(0, n))));
        document.holds(27, sentence, () -> each(new int[] {-1, 2, 3}, n -> element("stack(0, " + n + ")", roads -> roads.stack(0, n))));
        document.holds(26, sentence, () -> element("halves(-1, 2)", roads -> roads.halves(-1, 2)));
    }

    private void noSuchNumber() {
        String sentence = "IllegalArgumentException: k is none.";
        int[] ways = {-1, 30, 31};
        document.holds(22, sentence, () -> each(ways, n -> argument("way(" + n + ", 0)", roads -> roads.way(n, 0))));
        document.holds(23, sentence, () -> each(ways, n -> argument("step(" + n + ", 0, 0)", roads -> roads.step(n, 0, 0))));
        document.holds(24, sentence, () -> each(ways, n -> argument("word(" + n + ", 0)", roads -> roads.word(n, 0))));
        document.holds(31, "IllegalArgumentException: n is none.", () -> each(new int[] {-1, 0, 11, 12}, n -> argument("agreed(" + n + ")", roads -> roads.agreed(n))));
        document.holds(19, "IllegalArgumentException: the second PLACE is less.", () -> {
            for (int from = 1; from < 4; from++) {
                for (int to = 0; to < from; to++) {
                    int one = from;
                    int other = to;
                    argument("stretch(" + one + ", " + other + ")", roads -> roads.stretch(one, other));
                }
            }
            PhraseRoads roads = Unchanged.scene();
            desk.due("the same is not less", roads.stretch(3, 3) >= 0, true);
        });
        document.holds(30, "IllegalArgumentException: n is none, or the text is wrong (n is looked at first: then no text is read).", () -> {
            each(new int[] {-1, 0, 4, 5}, n -> {
                refused("match(" + n + ")", IllegalArgumentException.class, Unchanged.TAPE, roads -> roads.match(n));
                PhraseRoads roads = new PhraseRoads();
                desk.faulty(roads, "sentence", "     ?", 5);
                desk.argument("a wrong text and a wrong number", () -> Desk.read(roads, "match " + n, "?"));
                desk.due("no text is read", roads.fault(), 5);
                desk.due("the tape is used up", roads.end(1), false);
            });
        });
        String wrong = "IllegalArgumentException: the text is wrong.";
        document.holds(28, wrong, () -> wrongTold("forced"));
        document.holds(29, wrong, () -> wrongTold("near"));
        document.holds(30, "or the text is wrong", () -> wrongTold("match 2"));
        document.holds(36, wrong, () -> wrongTold("tuned"));
    }

    private void wrongTold(String kind) {
        refused(kind + " of a wrong text", IllegalArgumentException.class, Unchanged.TAPE | Unchanged.FAULT, roads -> Desk.read(roads, kind, "v w x ="));
    }

    private void toldFirst() {
        String sentence = "Of several exceptions the one told first is thrown";
        document.holds(10, sentence, () -> index("phrase(7, 6)", roads -> roads.phrase(7, 6)));
        document.holds(10, sentence, () -> index("phrase(-1, -1)", roads -> roads.phrase(-1, -1)));
        document.holds(15, sentence, () -> index("price(7, 100)", roads -> roads.price(7, 100)));
        document.holds(17, sentence, () -> element("tune(5, 100)", roads -> roads.tune(5, 100)));
        document.holds(17, sentence, () -> element("tune(-1, -1)", roads -> roads.tune(-1, -1)));
        document.holds(19, sentence, () -> index("stretch(4, 0)", roads -> roads.stretch(4, 0)));
        document.holds(19, sentence, () -> index("stretch(0, -1)", roads -> roads.stretch(0, -1)));
        document.holds(22, sentence, () -> element("way(30, 3)", roads -> roads.way(30, 3)));
        document.holds(22, sentence, () -> element("way(-1, -1)", roads -> roads.way(-1, -1)));
        document.holds(23, sentence, () -> element("step(30, 0, 3)", roads -> roads.step(30, 0, 3)));
        document.holds(23, sentence, () -> element("step(-1, -1, -1)", roads -> roads.step(-1, -1, -1)));
        document.holds(27, sentence, () -> index("stack(5, 2)", roads -> roads.stack(5, 2)));
        document.holds(27, sentence, () -> index("stack(-1, -1)", roads -> roads.stack(-1, -1)));
    }

    private void nothingHappens() {
        document.holds(2, "NONE, and none come", () -> {
            unchanged.by("a full tape, emptied", Unchanged.TAPE, roads -> {
                for (int i = 0; i < 25; i++) {
                    roads.feed(1, 2, 3, 4, 5);
                }
                roads.end(0);
            });
        });
        document.holds(3, "false, and nothing happens", () -> {
            for (int n : new int[] {-1, 8, 400, Integer.MAX_VALUE, Integer.MIN_VALUE}) {
                unchanged.by("end(" + n + ")", Unchanged.NOTHING, roads -> roads.end(n));
            }
        });
        document.holds(16, "whether that changed", () -> {
            unchanged.by("drop(0, false)", Unchanged.NOTHING, roads -> roads.drop(0, false));
            unchanged.by("drop(1, true)", Unchanged.NOTHING, roads -> roads.drop(1, true));
        });
        document.holds(6, "a call that throws changes nothing but the TAPE, where it is used up, and fault(), where a text is read", () -> {
            for (String kind : new String[] {"book", "fluency", "sentence", "learn"}) {
                refused(kind + " of an early fault", IllegalArgumentException.class, Unchanged.TAPE | Unchanged.FAULT, roads -> Desk.read(roads, kind, "?"));
                refused(kind + " of a late fault", IllegalArgumentException.class, Unchanged.TAPE | Unchanged.FAULT, roads -> Desk.read(roads, kind, "v w a /"));
            }
        });
        document.holds(7, "there would be more than 30 PHRASES (nothing stays)", () -> {
            String lesson = "v w a r s t=v w x r s t/2 2";
            refused("36 phrases, a=x among them", UnsupportedOperationException.class, Unchanged.TAPE | Unchanged.FAULT, roads -> Desk.learn(roads, lesson));
            desk.refused("of a new one", UnsupportedOperationException.class, () -> Desk.learn(new PhraseRoads(), lesson));
            desk.right(new PhraseRoads(), "learn", "v w a r=v w x r s t/2 2", 30);
        });
    }

    /** What was reckoned before a change is no answer behind it. */
    private void nothingStale() {
        document.holds(14, "Another WORD is at a PLACE of THE SENTENCE: which was.", () -> {
            unchanged.nothingStale("put(0, 0)", roads -> roads.put(0, 0));
            unchanged.nothingStale("put(3, 6)", roads -> roads.put(3, 6));
        });
        document.holds(15, "COST of a PHRASE is told (also of one GONE): what it was.", () -> {
            unchanged.nothingStale("price(0, 99)", roads -> roads.price(0, 99));
            unchanged.nothingStale("price(4, 0)", roads -> roads.price(4, 0));
        });
        document.holds(16, "A PHRASE is GONE (is), or is there again: whether that changed.", () -> {
            unchanged.nothingStale("drop(4, true)", roads -> roads.drop(4, true));
            unchanged.nothingStale("drop(1, false)", roads -> roads.drop(1, false));
        });
        document.holds(17, "UNSEEN (what 0), PASS (1), JUMP (2), FAR (3), WIDE (4) is told: what it was.", () -> {
            int[][] ends = {{0, 99}, {0, 99}, {0, 20}, {0, 6}, {1, 40}};
            for (int what = 0; what < ends.length; what++) {
                for (int n : ends[what]) {
                    int told = what;
                    unchanged.nothingStale("tune(" + what + ", " + n + ")", roads -> roads.tune(told, n));
                }
            }
        });
        document.holds(6, "{ W }, at most 6, in place of the one before", () -> {
            for (String text : new String[] {"", "a", "b", "a c", "c a b", "a a a a a a", "b a c a b a"}) {
                unchanged.nothingStale("sentence " + text, roads -> Desk.sentence(roads, text));
            }
        });
        document.holds(4, "a PHRASE of that SOURCE and TARGET; if there is one of both already that is not GONE, N is its COST from now on", () ->
                unchanged.nothingStale("book", roads -> Desk.book(roads, "b=z 0;a=x 0")));
        document.holds(5, "in place of what was told of that pair", () -> unchanged.nothingStale("fluency", roads -> Desk.fluency(roads, "x y 0;x x 99")));
        document.holds(7, "Uses the TAPE up: a LESSON is LEARNED", () -> unchanged.nothingStale("learn", roads -> Desk.learn(roads, "b a=x y/0 0;1 1")));
        document.holds(38, "One goes back to THE IMAGE: true", () -> unchanged.nothingStale("back()", PhraseRoads::back));
        document.holds(37, "THE IMAGE is kept.", () -> unchanged.nothingStale("image()", PhraseRoads::image));
    }

    private void wouldBe() {
        document.holds(10, "WORTH of a PHRASE: how much EXACT would be more, if it were GONE.",
                () -> each(new int[] {0, 1, 2, 3, 4, 5, 6}, n -> unchanged.by("phrase(" + n + ", 5)", Unchanged.NOTHING, roads -> roads.phrase(n, 5))));
        document.holds(32, "NEEDED: PHRASES of which WORTH is above 0, as bits.", () -> unchanged.by("needed()", Unchanged.NOTHING, PhraseRoads::needed));
        document.holds(33, "IDLE: PHRASES, not GONE, that are no OPTION at any PLACE, as bits.", () -> unchanged.by("idle()", Unchanged.NOTHING, PhraseRoads::idle));
        document.holds(34, "REACH: the least FAR by which EXACT would be as little as with 6.", () -> unchanged.by("reach()", Unchanged.NOTHING, PhraseRoads::reach));
        document.holds(35, "WIDTH: the least WIDE (1 to 40) by which COST of FOUND would be EXACT; none.", () -> unchanged.by("width()", Unchanged.NOTHING, PhraseRoads::width));
        document.holds(36, "TUNED: the JUMP (0 to 20) by which the TEXT of the first WAY would have the least APART to a told text", () ->
                unchanged.by("tuned()", Unchanged.TAPE | Unchanged.FAULT, PhraseRoads::tuned));
        document.holds(31, "AGREED of n.", () -> unchanged.by("agreed(10)", Unchanged.NOTHING, roads -> roads.agreed(10)));
        document.holds(28, "Uses the TAPE up: FORCED; NONE.", () -> unchanged.by("forced()", Unchanged.TAPE | Unchanged.FAULT, PhraseRoads::forced));
        document.holds(29, "Uses the TAPE up: NEAR.", () -> unchanged.by("near()", Unchanged.TAPE | Unchanged.FAULT, PhraseRoads::near));
        document.holds(30, "Uses the TAPE up: MATCH of n.", () -> unchanged.by("match(2)", Unchanged.TAPE | Unchanged.FAULT, roads -> roads.match(2)));
    }
}
