/** Boundary cases of what is reckoned of a told text, and of what would be otherwise: promises 28 to 36, and WORTH of 10. */
final class BoundTold {
    private static final int ALL_THIRTY = 0x3FFFFFFF;
    private final Sentences document;
    private final Desk desk;

    BoundTold(Sentences document) {
        this.document = document;
        this.desk = document.desk;
    }

    void all() {
        forced();
        unknown();
        near();
        match();
        agreed();
        worth();
        idle();
        reach();
        width();
        tuned();
    }

    private static String times(String word, int many) {
        return (word + " ").repeat(many);
    }

    /** Six words that give three each: the longest text there is. */
    private static PhraseRoads longest() {
        PhraseRoads roads = BoundWays.tuned(0, 99, 0);
        Desk.book(roads, "a=x x x 0");
        Desk.sentence(roads, "a a a a a a");
        return roads;
    }

    private void forced() {
        document.holds(28, "the least COST of WAYS whose TEXT is just that; none", () -> {
            PhraseRoads roads = BoundWays.tuned(0, 50, 1);
            Desk.book(roads, "a=x 1;b=y 2;b=4;a=6;a b=x y 9");
            Desk.sentence(roads, "a b");
            desk.right(roads, "forced", "x y", 3);
            desk.right(roads, "forced", "y x", 6);
            desk.right(roads, "forced", "x", 5);
            desk.right(roads, "forced", "", 10);
            desk.right(roads, "forced", "x y y", -1);
            desk.right(roads, "forced", "x y x", -1);
            desk.right(roads, "forced", "x x", -1);
            desk.right(roads, "forced", "a b", 100);
            desk.right(roads, "forced", "a", 54);
            roads.tune(3, 2);
            desk.right(roads, "forced", "y x", 6);
            roads.tune(3, 1);
            desk.right(roads, "forced", "y x", -1);
            roads.tune(3, 0);
            desk.right(roads, "forced", "x y", 3);
            roads.drop(0, true);
            desk.right(roads, "forced", "x y", 9);
            roads.drop(4, true);
            desk.right(roads, "forced", "x y", -1);
            Desk.fluency(roads, "^ $ 99");
            desk.right(roads, "forced", "", 109);
        });
        document.holds(28, "Uses the TAPE up: FORCED; NONE.", () -> {
            PhraseRoads roads = longest();
            desk.right(roads, "forced", times("x", 18), 0);
            desk.right(roads, "forced", times("x", 17), -1);
            desk.right(roads, "forced", times("x", 15) + "a", 99);
            desk.right(roads, "forced", "a " + times("x", 16), -1);
            desk.right(roads, "forced", "a a a a a a", 6 * 99);
            desk.right(roads, "forced", "a a a a a", -1);
            Desk.fluency(roads, "^ x 1;x x 2;x $ 3");
            desk.right(roads, "forced", times("x", 18), 1 + 17 * 2 + 3);
        });
    }

    private void unknown() {
        document.holds(29, "words that are no WORDS yet are no WORDS by that, and unlike all WORDS", () -> {
            PhraseRoads roads = BoundWays.tuned(0, 0, 1);
            Desk.sentence(roads, "a b");
            desk.right(roads, "near", "a q", 1);
            desk.right(roads, "near", "q q", 2);
            desk.right(roads, "near", "q a b q", 2);
            desk.right(roads, "match 1", "q a q", 1);
            desk.right(roads, "match 2", "a q b", 0);
            desk.right(roads, "forced", "a q", -1);
            desk.right(roads, "forced", "q q", -1);
            desk.right(roads, "tuned", "q q", 0);
            Desk.sentence(roads, "a q");
            desk.right(roads, "near", "a q", 0);
            desk.right(roads, "forced", "a q", 0);
        });
    }

    private void near() {
        document.holds(29, "APART of two rows of WORDS: the fewest steps (a WORD put in, taken out, or changed) from the one to the other one.", () -> {
            PhraseRoads roads = BoundWays.tuned(0, 0, 1, 0);
            desk.right(roads, "near", "", 0);
            desk.right(roads, "near", times("a", 18), 18);
            Desk.sentence(roads, "a b c");
            String[] texts = {"", "a b c", "a b", "b c", "a c", "a b c a", "a a b c", "c b a", "b c a", "a c b", "c", "c c c", "a b c a b c"};
            int[] apart = {3, 0, 1, 1, 1, 1, 1, 2, 2, 2, 2, 2, 3};
            for (int i = 0; i < texts.length; i++) {
                desk.right(roads, "near", texts[i], apart[i]);
            }
            PhraseRoads whole = longest();
            desk.right(whole, "near", times("x", 18), 0);
            desk.right(whole, "near", "", 18);
            desk.right(whole, "near", times("q", 18), 18);
            desk.right(whole, "near", times("x", 9) + times("a", 9), 9);
            desk.right(whole, "near", "x", 17);
        });
    }

    private void match() {
        document.holds(30, "MATCH of N (1 to 3): how many rows of N WORDS, one behind another, of the first WAY's TEXT are in a told text (likewise)", () -> {
            PhraseRoads roads = BoundWays.tuned(0, 0, 1, 0);
            for (int n = 1; n <= 3; n++) {
                Desk.sentence(roads, "");
                desk.right(roads, "match " + n, "", 0);
                desk.right(roads, "match " + n, "a b c", 0);
                Desk.sentence(roads, "a b c");
                desk.right(roads, "match " + n, "", 0);
                desk.right(roads, "match " + n, "a b c", 4 - n);
                desk.right(roads, "match " + n, "a b", n == 1 ? 2 : n == 2 ? 1 : 0);
                desk.right(roads, "match " + n, "c b a", n == 1 ? 3 : 0);
                desk.right(roads, "match " + n, "q a b c q", 4 - n);
                desk.right(roads, "match " + n, "c a b", n == 1 ? 3 : n == 2 ? 1 : 0);
                Desk.sentence(roads, "a b");
                desk.right(roads, "match " + n, "a b c", 3 - n);
            }
        });
        document.holds(30, "each counted as often as it is there at most", () -> {
            PhraseRoads roads = longest();
            for (int n = 1; n <= 3; n++) {
                for (int many : new int[] {0, 1, 2, 3, 4, 17, 18}) {
                    desk.right(roads, "match " + n, times("x", many), Math.max(0, many - n + 1));
                }
            }
            Desk.book(roads, "a=99");
            Desk.sentence(roads, "a");
            desk.right(roads, "match 1", times("x", 18), 3);
            desk.right(roads, "match 2", times("x", 18), 2);
            desk.right(roads, "match 3", times("x", 18), 1);
        });
    }

    private void agreed() {
        document.holds(31, "of the first N WAYS (all, if there are fewer) the one whose TEXT has the least sum of APART to TEXTS of these all "
                + "(of several the first): its number", () -> {
            PhraseRoads roads = BoundWays.tuned(0, 50, 0, 0);
            Desk.book(roads, "a=x 1;a=y 2;a=y z 3");
            Desk.sentence(roads, "a");
            int[] want = {0, 0, 1, 1, 1, 1, 1, 1, 1, 1};
            for (int n = 1; n <= 10; n++) {
                desk.due("agreed(" + n + ") of four", roads.agreed(n), want[n - 1]);
            }
            Desk.sentence(roads, "");
            for (int n = 1; n <= 10; n++) {
                desk.due("agreed(" + n + ") of one", roads.agreed(n), 0);
            }
        });
        document.holds(31, "AGREED of N (1 to 10)", () -> {
            PhraseRoads roads = BoundWays.tuned(0, 99, 0, 0);
            Desk.book(roads, "a=b b b 1;a=c c c 2;a=d d d 3;a=e e e 4;a=f f f 5;a=g g g 6;a=h h h 7;a=i i i 8");
            Desk.book(roads, "a=j 9;a=j j 10;a=j j j 11");
            Desk.sentence(roads, "a");
            int[] want = {0, 0, 0, 0, 0, 0, 0, 0, 0, 8};
            for (int n = 1; n <= 10; n++) {
                desk.due("agreed(" + n + ")", roads.agreed(n), want[n - 1]);
            }
        });
    }

    private void worth() {
        document.holds(10, "WORTH of a PHRASE: how much EXACT would be more, if it were GONE.", () -> {
            PhraseRoads roads = BoundWays.tuned(0, 99, 0, 0);
            Desk.book(roads, "a=x 0;a=y 0;b=x 1;c=x 1;c=y 5");
            Desk.sentence(roads, "b");
            desk.due("the only one of the only word", roads.phrase(2, 5), 98);
            Desk.sentence(roads, "a b");
            int[] worth = {0, 0, 98, 0, 0};
            for (int phrase = 0; phrase < worth.length; phrase++) {
                desk.due("worth of " + phrase, roads.phrase(phrase, 5), worth[phrase]);
            }
            roads.drop(0, true);
            desk.due("of one gone", roads.phrase(0, 5), 0);
            desk.due("of the other one then", roads.phrase(1, 5), 99);
            roads.price(2, 99);
            desk.due("as dear as to pass", roads.phrase(2, 5), 0);
            Desk.sentence(roads, "c c c c c c");
            desk.due("six times", roads.phrase(3, 5), 24);
            roads.drop(4, true);
            desk.due("six times, passed", roads.phrase(3, 5), 6 * 98);
            roads.drop(3, true);
            Desk.book(roads, "c=x 1");
            desk.due("one of the same words that is gone does not help", roads.phrase(5, 5), 6 * 98);
        });
        document.holds(32, "NEEDED: PHRASES of which WORTH is above 0, as bits.", () -> {
            PhraseRoads roads = BoundWays.tuned(0, 99, 0, 0);
            BoundWays.thirty(roads, 9);
            desk.due("without a sentence", roads.needed(), 0);
            Desk.sentence(roads, "a");
            desk.due("all alike", roads.needed(), 0);
            roads.price(29, 8);
            desk.due("the thirtieth", roads.needed(), 1 << 29);
            roads.price(0, 8);
            desk.due("two alike", roads.needed(), 0);
            roads.drop(29, true);
            desk.due("the first", roads.needed(), 1);
            Desk.book(roads, "");
            Desk.sentence(roads, "a a a a a a");
            desk.due("the first at all places", roads.needed(), 1);
            roads.drop(0, true);
            for (int phrase = 1; phrase < 28; phrase++) {
                roads.drop(phrase, true);
            }
            desk.due("the only one", roads.needed(), 1 << 28);
            roads.tune(1, 9);
            desk.due("to pass is as cheap", roads.needed(), 0);
        });
    }

    private void idle() {
        document.holds(33, "IDLE: PHRASES, not GONE, that are no OPTION at any PLACE, as bits.", () -> {
            PhraseRoads roads = new PhraseRoads();
            BoundWays.thirty(roads, 9);
            desk.due("all thirty", roads.idle(), ALL_THIRTY);
            Desk.sentence(roads, "pa");
            desk.due("none is of that word", roads.idle(), ALL_THIRTY);
            roads.drop(29, true);
            roads.drop(0, true);
            desk.due("gone ones are not idle", roads.idle(), ALL_THIRTY - 1 - (1 << 29));
            Desk.sentence(roads, "pa pa pa pa pa a");
            desk.due("all are options at the last place", roads.idle(), 0);
            roads.drop(29, false);
            desk.due("that one, too", roads.idle(), 0);
            PhraseRoads longer = new PhraseRoads();
            Desk.book(longer, "a a=1;a a a=1;a=1");
            Desk.sentence(longer, "a");
            desk.due("too long", longer.idle(), 3);
            Desk.sentence(longer, "a a");
            desk.due("still too long", longer.idle(), 2);
            Desk.sentence(longer, "a a a");
            desk.due("no longer", longer.idle(), 0);
        });
    }

    private void reach() {
        document.holds(34, "REACH: the least FAR by which EXACT would be as little as with 6.", () -> {
            String letters = "abcdef";
            for (int size = 2; size <= 6; size++) {
                PhraseRoads roads = BoundWays.tuned(20, 0, 0);
                StringBuilder pairs = new StringBuilder("^ b 0;a $ 0;" + letters.charAt(size - 1) + " a 0");
                for (int i = 1; i + 1 < size; i++) {
                    pairs.append(';').append(letters.charAt(i)).append(' ').append(letters.charAt(i + 1)).append(" 0");
                }
                Desk.fluency(roads, pairs.toString());
                Desk.sentence(roads, "a b c d e f".substring(0, 2 * size - 1));
                for (int far = 0; far <= 6; far++) {
                    roads.tune(3, far);
                    desk.due("the first of " + size + " comes last, far " + far, roads.reach(), size);
                    desk.due("exact, far " + far, roads.exact() == 0, far >= size);
                }
            }
        });
        document.holds(34, "REACH.", () -> {
            PhraseRoads roads = BoundWays.tuned(0, 0, 0);
            desk.due("without a sentence", roads.reach(), 0);
            Desk.sentence(roads, "a b c d e f");
            desk.due("all orders alike", roads.reach(), 0);
            Desk.fluency(roads, "^ a 6");
            desk.due("a jump for nothing", roads.reach(), 2);
            roads.tune(2, 1);
            desk.due("a jump for less", roads.reach(), 2);
            roads.tune(2, 2);
            desk.due("a jump for as much", roads.reach(), 0);
            roads.tune(2, 20);
            desk.due("a jump too dear", roads.reach(), 0);
        });
    }

    /** Whatever WIDE is told, the answer is the same; and it is what the stacks themselves show. */
    private void width(PhraseRoads roads, int want) {
        for (int wide : new int[] {1, 8, 40}) {
            roads.tune(4, wide);
            desk.due("width() at " + wide, roads.width(), want);
        }
        int exact = roads.exact();
        for (int wide = 1; wide <= 40; wide++) {
            roads.tune(4, wide);
            boolean found = roads.found(0) == exact;
            if (want == -1 || wide < want) {
                desk.due("found at " + wide, found, false);
            } else if (wide == want) {
                desk.due("found at " + wide, found, true);
            }
        }
    }

    private void width() {
        document.holds(35, "WIDTH: the least WIDE (1 to 40) by which COST of FOUND would be EXACT; none.", () -> {
            PhraseRoads roads = BoundWays.tuned(99, 0, 1);
            Desk.fluency(roads, "a $ 0;e c 0;d a 0");
            Desk.sentence(roads, "a b c d e f");
            width(roads, -1);
            PhraseRoads forty = BoundWays.tuned(99, 0, 1);
            Desk.fluency(forty, "f c 0;c e 0;c c 0;e c 0;c b 0");
            Desk.sentence(forty, "a b c d e f");
            width(forty, 40);
            PhraseRoads one = BoundWays.tuned(0, 0, 1);
            width(one, 1);
            Desk.sentence(one, "a b c d e f");
            width(one, 1);
            PhraseRoads two = BoundWays.nowhere();
            width(two, 2);
        });
    }

    private void tuned() {
        document.holds(36, "TUNED: the JUMP (0 to 20) by which the TEXT of the first WAY would have the least APART to a told text "
                + "(likewise; of several the least).", () -> {
            for (int begin = 0; begin <= 63; begin++) {
                PhraseRoads roads = BoundWays.tuned(0, 0, 7);
                Desk.fluency(roads, "^ a " + begin);
                Desk.sentence(roads, "a b");
                desk.right(roads, "tuned", "a b", begin > 60 ? 0 : (begin + 2) / 3);
                desk.right(roads, "tuned", "b a", 0);
                desk.right(roads, "tuned", "", 0);
                desk.due("jump stays", roads.count(6), 7);
            }
            PhraseRoads roads = BoundWays.tuned(0, 0, 20);
            Desk.fluency(roads, "^ a 60");
            Desk.sentence(roads, "a b");
            roads.tune(3, 1);
            desk.right(roads, "tuned", "a b", 0);
            desk.due("the order that far lets alone", roads.word(0, 0), 0);
            desk.right(new PhraseRoads(), "tuned", "", 0);
        });
    }
}
