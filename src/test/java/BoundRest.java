import java.util.function.IntUnaryOperator;

/** What the document says beside its boundaries, worked out by hand; most of it of one sentence, "la maison bleue". */
final class BoundRest {
    private final Sentences document;
    private final Desk desk;

    BoundRest(Sentences document) {
        this.document = document;
        this.desk = document.desk;
    }

    void all() {
        held();
        toldBook();
        toldFluency();
        toldSentence();
        learned();
        options();
        ways();
        stretches();
        scores();
        stacks();
        found();
        told();
        exceptions();
        bits();
        image();
    }

    private void row(String name, IntUnaryOperator got, int... want) {
        for (int k = 0; k < want.length; k++) {
            desk.due(name + ", " + k, got.applyAsInt(k), want[k]);
        }
    }

    private void word(PhraseRoads roads, int word, String letters) {
        for (int k = 0; k < letters.length(); k++) {
            desk.due("letter " + k + " of " + letters, roads.letter(word, k), letters.charAt(k) - 'a');
        }
        desk.due("behind " + letters, roads.letter(word, letters.length()), -1);
    }

    private void parts(PhraseRoads roads, int phrase, boolean target, int... words) {
        desk.due("words of phrase " + phrase, roads.phrase(phrase, target ? 1 : 0), words.length);
        row("phrase " + phrase + ", target " + target, k -> roads.part(phrase, target, k), words);
        desk.due("no more of phrase " + phrase, roads.part(phrase, target, words.length), -1);
    }

    /** Words: la 0, the 1, maison 2, house 3, bleue 4, blue 5. */
    private static PhraseRoads house() {
        PhraseRoads roads = new PhraseRoads();
        Desk.book(roads, "la=the 3;maison=house 5;bleue=blue 4;maison bleue=blue house 7");
        Desk.fluency(roads, "^ the 1;the blue 2;blue house 1;house $ 1;the house 4");
        Desk.sentence(roads, "la maison bleue");
        return roads;
    }

    private void held() {
        document.holds(10, "THE BOOK has PHRASES (at most 30, numbered from 0 on as they came, GONE or not): SOURCE, 1 to 3 WORDS, TARGET, "
                + "0 to 3 WORDS, COST 0 to 99.", () -> {
            PhraseRoads roads = new PhraseRoads();
            Desk.book(roads, "je ne sais=no 99;pas=0");
            roads.drop(0, true);
            Desk.book(roads, "sais pas=do not know 12");
            desk.due("three of them", roads.count(1), 3);
            parts(roads, 0, false, 0, 1, 2);
            parts(roads, 0, true, 3);
            parts(roads, 1, false, 4);
            parts(roads, 1, true);
            parts(roads, 2, false, 2, 4);
            parts(roads, 2, true, 5, 6, 7);
            row("costs", phrase -> roads.phrase(phrase, 2), 99, 0, 12);
        });
        document.holds(12, "FLUENCY of two WORDS, one behind the other one (in place of the first one may be THE BEGIN, in place of the "
                + "second one THE END): 0 to 99 of pairs that are told (at most 60), UNSEEN of all others.", () -> {
            PhraseRoads roads = house();
            desk.due("blue behind the", roads.after(1, 5), 2);
            desk.due("the behind blue", roads.after(5, 1), 20);
            desk.due("the at the begin", roads.after(-1, 1), 1);
            desk.due("the at the end", roads.after(1, -1), 20);
            desk.due("house at the end", roads.after(3, -1), 1);
            desk.due("house at the begin", roads.after(-1, 3), 20);
            roads.tune(0, 7);
            desk.due("unseen is less", roads.after(5, 1), 7);
            desk.due("what is told stays", roads.after(1, 5), 2);
        });
    }

    private void toldBook() {
        document.holds(4, "THE BOOK is told by texts: ENTRY { ; ENTRY }, at most 12: W { W } = { W } N (W: a WORD, N: 0 to 99; 1 to 3 W ahead "
                + "of =, 0 to 3 behind it): a PHRASE of that SOURCE and TARGET", () -> {
            PhraseRoads roads = new PhraseRoads();
            desk.right(roads, "book", "la maison=the house 12;bleue=blue 3", 2);
            desk.right(roads, "book", "la=the 4", 1);
            word(roads, 0, "la");
            word(roads, 1, "maison");
            word(roads, 2, "the");
            word(roads, 3, "house");
            word(roads, 4, "bleue");
            word(roads, 5, "blue");
            parts(roads, 0, false, 0, 1);
            parts(roads, 0, true, 2, 3);
            parts(roads, 2, false, 0);
            parts(roads, 2, true, 2);
            row("costs", phrase -> roads.phrase(phrase, 2), 12, 3, 4);
        });
        document.holds(4, "Uses the TAPE up: a text of THE BOOK: how many PHRASES came. IllegalArgumentException: it is wrong.", () -> {
            PhraseRoads roads = house();
            desk.right(roads, "book", "la=a 1;la=the 9;un=a 2", 2);
            desk.due("told anew", roads.phrase(0, 2), 9);
            desk.right(roads, "book", "un=a 5;un=a 6", 0);
            desk.faulty(roads, "book", "un a 5", 5);
            desk.due("as many as before", roads.count(1), 6);
        });
    }

    private void toldFluency() {
        document.holds(5, "FLUENCY is told by texts: PAIR { ; PAIR }, at most 12: A B N (A: a WORD or ^, THE BEGIN; B: a WORD or $, THE END; "
                + "N: 0 to 99), in place of what was told of that pair.", () -> {
            PhraseRoads roads = new PhraseRoads();
            desk.right(roads, "fluency", "the house 4;^ the 1;house $ 2;^ $ 3", 4);
            desk.due("house behind the", roads.after(0, 1), 4);
            desk.due("the at the begin", roads.after(-1, 0), 1);
            desk.due("house at the end", roads.after(1, -1), 2);
            desk.due("nothing at all", roads.after(-1, -1), 3);
            desk.right(roads, "fluency", "the house 40", 4);
            desk.due("in place of it", roads.after(0, 1), 40);
        });
        document.holds(5, "Uses the TAPE up: a text of FLUENCY: how many pairs are told then. IllegalArgumentException: it is wrong.", () -> {
            PhraseRoads roads = house();
            desk.right(roads, "fluency", "la la 1;blue house 9", 6);
            desk.right(roads, "fluency", "", 6);
            desk.faulty(roads, "fluency", "$ la 1", 0);
            desk.faulty(roads, "fluency", "la ^ 1", 3);
            desk.due("as many as before", roads.count(2), 6);
        });
    }

    private void toldSentence() {
        document.holds(6, "Uses the TAPE up: THE SENTENCE: how many WORDS. IllegalArgumentException: the text is wrong.", () -> {
            PhraseRoads roads = house();
            desk.right(roads, "sentence", "la bleue la noire", 4);
            row("places", roads::place, 0, 4, 0, 6);
            desk.faulty(roads, "sentence", "la 1", 3);
            desk.due("the one before is there", roads.count(3), 4);
        });
    }

    private void learned() {
        document.holds(7, "LEARNED of a LESSON: stretches of 1 to 3 W ahead of = and of 1 to 3 W behind it for which there is some link", () -> {
            PhraseRoads roads = new PhraseRoads();
            desk.right(roads, "learn", "la maison bleue = the blue house / 0 0; 1 2; 2 1", 5);
            int[][] sources = {{0}, {0, 1, 2}, {1}, {1, 2}, {2}};
            int[][] targets = {{3}, {3, 4, 5}, {5}, {4, 5}, {4}};
            for (int phrase = 0; phrase < 5; phrase++) {
                parts(roads, phrase, false, sources[phrase]);
                parts(roads, phrase, true, targets[phrase]);
                desk.due("cost of " + phrase, roads.phrase(phrase, 2), 10);
            }
        });
        document.holds(7, "in the order of the first place ahead of =, of the last one, of the first place behind it, of the last one: a PHRASE "
                + "of that SOURCE and TARGET;", () -> {
            PhraseRoads roads = new PhraseRoads();
            desk.right(roads, "learn", "il pleut = it is raining / 0 0; 1 2", 5);
            int[][] sources = {{0}, {0}, {0, 1}, {1}, {1}};
            int[][] targets = {{2}, {2, 3}, {2, 3, 4}, {3, 4}, {4}};
            for (int phrase = 0; phrase < 5; phrase++) {
                parts(roads, phrase, false, sources[phrase]);
                parts(roads, phrase, true, targets[phrase]);
            }
            row("a word without a link costs 5", phrase -> roads.phrase(phrase, 2), 10, 15, 15, 15, 10);
        });
        document.holds(7, "Uses the TAPE up: a LESSON is LEARNED: how many PHRASES came.", () -> {
            PhraseRoads roads = house();
            desk.right(roads, "learn", "la maison bleue = the blue house / 0 0; 1 2; 2 1", 1);
            row("those that were there cost 1 less", phrase -> roads.phrase(phrase, 2), 2, 4, 3, 6, 10);
            desk.right(roads, "learn", "la maison bleue = the blue house / 0 0; 1 2; 2 1", 0);
            row("and less again", phrase -> roads.phrase(phrase, 2), 1, 3, 2, 5, 9);
        });
    }

    private void options() {
        document.holds(18, "An OPTION at a PLACE: a PHRASE, not GONE, whose SOURCE are the WORDS of THE SENTENCE from that PLACE on "
                + "(told by its number), or to PASS the WORD there as it is (told as 99: TARGET that WORD alone, COST PASS).", () -> {
            PhraseRoads roads = house();
            row("at 0", k -> roads.option(0, k), 0, 99, -1);
            row("at 1", k -> roads.option(1, k), 1, 3, 99, -1);
            row("at 2", k -> roads.option(2, k), 2, 99, -1);
            roads.drop(1, true);
            row("at 1, one gone", k -> roads.option(1, k), 3, 99, -1);
        });
    }

    private void way(PhraseRoads roads, int k, int cost, int... steps) {
        desk.due("cost of way " + k, roads.way(k, 0), cost);
        desk.due("steps of way " + k, roads.way(k, 1), steps.length / 2);
        row("way " + k + ", start or option", n -> roads.step(k, n / 2, n % 2), steps);
    }

    private void ways() {
        document.holds(22, "A WAY: a row of STEPS, each a START and an OPTION there, so that each PLACE is covered by just one STEP", () -> {
            PhraseRoads roads = house();
            way(roads, 0, 15, 0, 0, 1, 3);
            way(roads, 1, 23, 0, 0, 2, 2, 1, 1);
            way(roads, 2, 57, 0, 0, 1, 1, 2, 2);
            way(roads, 3, 67, 2, 2, 0, 0, 1, 1);
            way(roads, 4, 79, 1, 3, 0, 0);
            way(roads, 5, 82, 1, 1, 0, 0, 2, 2);
            way(roads, 6, 85, 2, 2, 1, 1, 0, 0);
        });
        document.holds(24, "Its TEXT: TARGETS of its STEPS, one behind another.", () -> {
            PhraseRoads roads = house();
            row("the blue house", n -> roads.word(0, n), 1, 5, 3, -1);
            row("the blue house, by three steps", n -> roads.word(1, n), 1, 5, 3, -1);
            row("the house blue", n -> roads.word(2, n), 1, 3, 5, -1);
            row("blue house the", n -> roads.word(4, n), 5, 3, 1, -1);
        });
        document.holds(23, "COST of a STEP: of its OPTION; JUMP times how far its START is away from the place behind the STEP before; FLUENCY "
                + "of each WORD of its TARGET behind the WORD of the TEXT ahead of it (THE BEGIN ahead of all).", () -> {
            PhraseRoads roads = house();
            row("3+1, 7+2+1", n -> roads.step(0, n, 2), 4, 10, -1);
            row("3+1, 4+2*1+2, 5+2*2+1", n -> roads.step(1, n, 2), 4, 8, 10, -1);
            row("4+2*2+20, 3+2*3+20, 5+4", n -> roads.step(3, n, 2), 28, 29, 9, -1);
            row("7+2*1+20+1, 3+2*3+20", n -> roads.step(4, n, 2), 30, 29, -1);
        });
        document.holds(20, "EXACT: COST of the first one.", () -> {
            PhraseRoads roads = house();
            desk.due("the phrase of two words", roads.exact(), 15);
            roads.drop(3, true);
            desk.due("without it", roads.exact(), 23);
            roads.tune(2, 14);
            desk.due("a jump costs more than to stay in order", roads.exact(), 57);
            desk.due("as the first way", roads.way(0, 0), 57);
        });
        document.holds(20, "EXACT.", () -> {
            PhraseRoads roads = house();
            roads.tune(3, 0);
            desk.due("no jump needed", roads.exact(), 15);
            roads.price(3, 50);
            desk.due("the other order needs one", roads.exact(), 57);
        });
        document.holds(21, "MANY.", () -> {
            PhraseRoads roads = house();
            desk.due("6 orders of 2*2*2, and 2 of 2", roads.many(), 52);
            roads.tune(3, 0);
            desk.due("in order alone", roads.many(), 10);
        });
    }

    private void stretches() {
        document.holds(19, "STRETCH of two PLACES (from the one to the other one, both too): the least of: COST of an OPTION that covers just "
                + "these, and FLUENCY of each WORD of its TARGET but the first one behind the one ahead of it; or STRETCHES of two parts, "
                + "one behind the other one, together.", () -> {
            PhraseRoads roads = house();
            row("one place", place -> roads.stretch(place, place), 3, 5, 4);
            desk.due("7+1 is less than 5+4", roads.stretch(1, 2), 8);
            desk.due("two parts", roads.stretch(0, 1), 8);
            desk.due("3+8", roads.stretch(0, 2), 11);
            roads.price(3, 9);
            desk.due("5+4 is less than 9+1", roads.stretch(1, 2), 9);
        });
        document.holds(19, "STRETCH.", () -> {
            PhraseRoads roads = house();
            roads.tune(1, 2);
            row("to pass is less", place -> roads.stretch(place, place), 2, 2, 2);
            desk.due("all passed", roads.stretch(0, 2), 6);
        });
    }

    private void scores() {
        document.holds(27, "AHEAD of a set of PLACES that are not covered: STRETCHES of all its runs (PLACES one behind another, as many as "
                + "there are) together.", () -> {
            PhraseRoads roads = house();
            desk.due("all three are one run", roads.stack(0, 1), 11);
            roads.price(0, 90);
            desk.due("maison first: 27, and 50 and 4 of two runs", roads.stack(1, 1), 78);
        });
        document.holds(27, "THE STACKS: a HALF is a row of STEPS as of a WAY that covers some PLACES; its SCORE: COST of its STEPS, and AHEAD of "
                + "what it does not cover. Stack N has HALVES that cover N PLACES; stack 0 has the one without STEPS.", () -> {
            PhraseRoads roads = house();
            desk.due("the one without steps", roads.stack(0, 0), 1);
            desk.due("its score", roads.stack(0, 1), 11);
            desk.due("two options at each place of one word", roads.stack(1, 0), 6);
            desk.due("la: 4, and 8 ahead", roads.stack(1, 1), 12);
            desk.due("la maison: 13+4, or la bleue: 12+5", roads.stack(2, 1), 17);
            desk.due("la, maison bleue: 14", roads.stack(3, 1), 14);
        });
    }

    private void stacks() {
        document.holds(25, "of each that stays, in that order, by STARTS, then by OPTIONS (the lesser number first), all HALVES with one STEP more "
                + "are MADE, each put on its stack", () -> {
            PhraseRoads roads = house();
            roads.tune(4, 1);
            desk.due("7, 5 and 2 halves", roads.found(2), 14);
            row("on the stacks", n -> roads.stack(n, 0), 1, 6, 5, 3);
            desk.due("5 and 4 are cut", roads.found(4), 9);
            roads.drop(3, true);
            desk.due("6, 4 and 2 halves", roads.found(2), 12);
            row("la maison was made ahead of la bleue, of like score", n -> roads.halves(n, 0), 0, 1, 2, -1);
            desk.due("so it goes on in order", roads.found(0), 57);
        });
        document.holds(25, "Of THE STACKS what 0 COST of FOUND, 1 its STEPS, 2 HALVES that were MADE (without the first one), 3 how often two were "
                + "MERGED, 4 how many were CUT; NONE of 0 and 1 without FOUND.", () -> {
            PhraseRoads roads = house();
            roads.tune(4, 1);
            row("one stays", roads::found, 15, 2, 14, 0, 9);
            PhraseRoads twice = new PhraseRoads();
            Desk.book(twice, "a=x 1;a=y x 1;b=x 1");
            Desk.sentence(twice, "a b");
            // Of a come x, y x (alike), a, of b x, b: 5 and one merged; of the 4 that lie 2, 2, 3, 3 more, 2 and 4 of them merged.
            row("some are alike", twice::found, 62, 2, 15, 7, 0);
        });
    }

    private void found() {
        document.holds(26, "FOUND: of the last stack the one of the least COST with FLUENCY of THE END (of several the one made first), with that "
                + "COST", () -> {
            PhraseRoads roads = house();
            row("starts", n -> roads.halves(n, 0), 0, 1, -1);
            row("options", n -> roads.halves(n, 1), 0, 3, -1);
            desk.due("14 and 1 for the end", roads.found(0), 15);
            Desk.fluency(roads, "house $ 50;blue $ 0");
            desk.due("the end matters: 37 and 0", roads.found(0), 37);
            row("in order", n -> roads.halves(n, 1), 0, 1, 2, -1);
        });
        document.holds(35, "WIDTH; NONE.", () -> {
            PhraseRoads roads = house();
            desk.due("one is enough", roads.width(), 1);
            roads.drop(3, true);
            desk.due("la bleue must stay, too", roads.width(), 2);
            desk.due("eight stay still", roads.count(8), 8);
        });
    }

    private void told() {
        document.holds(28, "FORCED: told is a text of THE SENTENCE's form, but of up to 18 W", () -> {
            PhraseRoads roads = house();
            desk.right(roads, "forced", "the blue house", 15);
            desk.right(roads, "forced", "the house blue", 57);
            desk.right(roads, "forced", "house the blue", 82);
            desk.right(roads, "forced", "the house", -1);
            desk.right(roads, "forced", "the red house", -1);
            roads.drop(3, true);
            desk.right(roads, "forced", "the blue house", 23);
        });
        document.holds(29, "NEAR: APART of the first WAY's TEXT and a told text (likewise).", () -> {
            PhraseRoads roads = house();
            desk.right(roads, "near", "the blue house", 0);
            desk.right(roads, "near", "the red house", 1);
            desk.right(roads, "near", "blue house", 1);
            desk.right(roads, "near", "the house blue", 2);
            desk.right(roads, "near", "", 3);
            desk.right(roads, "near", "red red red red", 4);
        });
        document.holds(36, "Uses the TAPE up: TUNED. IllegalArgumentException: the text is wrong.", () -> {
            PhraseRoads roads = house();
            roads.drop(3, true);
            desk.right(roads, "tuned", "the house blue", 14);
            desk.right(roads, "tuned", "the blue house", 0);
            desk.due("the price of jumping is as it was", roads.count(6), 2);
            desk.faulty(roads, "tuned", "the house 5", 10);
        });
    }

    private void exceptions() {
        document.holds(8, "IllegalArgumentException: a number is none, or a text is wrong.", () -> {
            PhraseRoads roads = house();
            desk.argument("price", () -> roads.price(0, 100));
            desk.argument("tune", () -> roads.tune(2, 21));
            desk.argument("stretch", () -> roads.stretch(1, 0));
            desk.argument("way", () -> roads.way(30, 0));
            desk.argument("step", () -> roads.step(30, 0, 0));
            desk.argument("word", () -> roads.word(30, 0));
            desk.argument("match", () -> roads.match(4));
            desk.argument("agreed", () -> roads.agreed(11));
            for (String kind : new String[] {"book", "fluency", "sentence", "learn", "forced", "near", "match 1", "tuned"}) {
                desk.faulty(roads, kind, " ?", 1);
            }
        });
    }

    private void bits() {
        document.holds(32, "Sets are bits.", () -> {
            PhraseRoads roads = house();
            desk.due("phrases 0 and 3", roads.needed(), 9);
            Desk.sentence(roads, "bleue");
            desk.due("phrases 0, 1 and 3", roads.idle(), 11);
        });
        document.holds(32, "NEEDED, as bits.", () -> {
            PhraseRoads roads = house();
            row("worth", phrase -> roads.phrase(phrase, 5), 84, 0, 0, 8);
            desk.due("those above 0", roads.needed(), 9);
            roads.drop(3, true);
            row("worth without the last one", phrase -> roads.phrase(phrase, 5) > 0 ? 1 : 0, 1, 1, 1, 0);
            desk.due("then all others", roads.needed(), 7);
        });
        document.holds(33, "IDLE, as bits.", () -> {
            PhraseRoads roads = house();
            desk.due("all are options", roads.idle(), 0);
            Desk.sentence(roads, "maison la bleue");
            desk.due("maison bleue is not", roads.idle(), 8);
            roads.drop(3, true);
            desk.due("gone, it is none", roads.idle(), 0);
        });
    }

    private void image() {
        document.holds(38, "THE IMAGE (one) of all may be kept, and gone back to", () -> {
            PhraseRoads roads = house();
            roads.image();
            Desk.book(roads, "la=la 0");
            Desk.fluency(roads, "^ la 0");
            Desk.sentence(roads, "la noire");
            roads.tune(2, 0);
            roads.drop(0, true);
            desk.due("back", roads.back(), true);
            row("counts", roads::count, 6, 4, 5, 3, 20, 50, 2, 6, 8, 4);
            way(roads, 0, 15, 0, 0, 1, 3);
            roads.tune(4, 1);
            roads.image();
            roads.tune(4, 9);
            roads.back();
            desk.due("the newer one", roads.count(8), 1);
        });
    }
}
