/** Boundary cases of the TAPE and of all texts that are read: promises 1 to 8, and the told texts of 28 to 30 and 36. */
final class BoundTexts {
    private static final String[] LEARNERS = {"book", "fluency", "sentence", "learn"};
    private static final String[] TOLD = {"forced", "near", "match 1", "match 2", "match 3", "tuned"};
    private static final String EIGHTEEN = "a b c d e f g h i j k l m n o p q r";
    private static final String SIX = "a b c d e f=g h i j k l/0 0;1 1;2 2;3 3;4 4;5 5";
    private final Sentences document;
    private final Desk desk;

    BoundTexts(Sentences document) {
        this.document = document;
        this.desk = document.desk;
    }

    void all() {
        newObject();
        lastCalls();
        tape();
        words();
        phrases();
        pairs();
        bookTexts();
        fluencyTexts();
        sentenceTexts();
        lessonTexts();
        signs();
        wrongBytes();
        wrongLinks();
        fullBook();
        fullFluency();
        nothingStays();
        faults();
        toldTexts();
    }

    private void newObject() {
        document.holds(1, "A BOOK without PHRASES, without WORDS.", () -> {
            PhraseRoads roads = new PhraseRoads();
            desk.due("words", roads.count(0), 0);
            desk.due("phrases", roads.count(1), 0);
            desk.due("phrases that are there", roads.count(9), 0);
            desk.index("the first phrase", () -> roads.phrase(0, 0));
            desk.index("the first word", () -> roads.letter(0, 0));
            desk.due("needed", roads.needed(), 0);
            desk.due("idle", roads.idle(), 0);
        });
        document.holds(1, "THE SENTENCE: 0 to 6 WORDS (none at first), at PLACES 0 on.", () -> {
            PhraseRoads roads = new PhraseRoads();
            desk.due("none at first", roads.count(3), 0);
            desk.index("no place at first", () -> roads.place(0));
            desk.right(roads, "sentence", "a b c d e f", 6);
            desk.due("the first place", roads.place(0), 0);
            desk.due("the last place", roads.place(5), 5);
            desk.index("no seventh place", () -> roads.place(6));
            desk.right(roads, "sentence", "", 0);
            desk.due("none again", roads.count(3), 0);
            desk.index("no place again", () -> roads.place(0));
        });
        document.holds(1, "UNSEEN 0 to 99 (20 at first), PASS 0 to 99 (50 at first), JUMP 0 to 20 (2 at first), "
                + "FAR 0 to 6 (6 at first), WIDE 1 to 40 (8 at first).", () -> {
            PhraseRoads roads = new PhraseRoads();
            int[] first = {20, 50, 2, 6, 8};
            for (int what = 0; what < first.length; what++) {
                desk.due("at first " + what, roads.count(4 + what), first[what]);
            }
            desk.due("no pairs at first", roads.count(2), 0);
            desk.due("unseen at first", roads.after(-1, -1), 20);
        });
    }

    private void lastCalls() {
        document.holds(1, "An object is used for at most 512 calls after it has been made", () -> {
            PhraseRoads roads = new PhraseRoads();
            int calls = 0;
            roads.feed(0x613D7820, 0x313B613D, 0x79203200, 0, 0);
            roads.end(11);
            roads.book();
            roads.feed(0x61206120, 0x61206120, 0x61206100, 0, 0);
            roads.end(11);
            desk.due("six words", roads.sentence(), 6);
            roads.image();
            calls += 7;
            while (calls < 506) {
                roads.price(0, calls % 100);
                roads.width();
                roads.back();
                calls += 3;
            }
            desk.due("calls up to now", calls, 508);
            desk.due("the 509th", roads.exact(), 6 + 7 * 20);
            desk.due("the 510th", roads.way(29, 1), 6);
            desk.due("the 511th", roads.drop(0, true), true);
            desk.due("the 512th", roads.exact(), 12 + 7 * 20);
        });
    }

    /** As many bytes as that, a word ahead of blanks. */
    private static void fill(PhraseRoads roads, int bytes) {
        roads.end(0);
        for (int fed = 0; fed < bytes; fed += 20) {
            roads.feed(fed == 0 ? 0x68692020 : 0x20202020, 0x20202020, 0x20202020, 0x20202020, 0x20202020);
        }
        roads.end(bytes);
    }

    private static int feedZ(PhraseRoads roads) {
        return roads.feed(0x7A7A7A7A, 0x7A7A7A7A, 0x7A7A7A7A, 0x7A7A7A7A, 0x7A7A7A7A);
    }

    private void tape() {
        document.holds(2, "Twenty bytes come behind the TAPE, of each number the highest first: how many it has", () -> {
            PhraseRoads roads = new PhraseRoads();
            desk.due("a new tape", roads.feed(0x61626364, 0x65206667, 0x20682069, 0x206A2020, 0x20206B6C), 20);
            desk.due("behind it", roads.feed(0x6D6E2020, 0x20202020, 0x20202020, 0x20202020, 0x2020206F), 40);
            desk.due("abcde fg h i j klmn and one too many", answerOf(roads), 7);
            desk.due("the seventh one's begin", roads.fault(), 39);
            roads.feed(0x61626364, 0x65206667, 0x20682069, 0x206A2020, 0x20206B6C);
            roads.feed(0x6D6E2020, 0x20202020, 0x20202020, 0x20202020, 0x20202020);
            desk.due("words", roads.sentence(), 6);
            String[] words = {"abcde", "fg", "h", "i", "j", "klmn"};
            for (int word = 0; word < words.length; word++) {
                for (int k = 0; k < words[word].length(); k++) {
                    desk.due("letter " + k + " of " + word, roads.letter(word, k), words[word].charAt(k) - 'a');
                }
            }
        });
        document.holds(2, "of each number the highest first", () -> {
            PhraseRoads roads = new PhraseRoads();
            desk.due("a number below 0", roads.feed(0x20202020, -1, 0, 0, 0), 20);
            desk.argument("a byte of 255", roads::sentence);
            desk.due("is no blank and no letter", roads.fault(), 4);
            roads.feed(0x2020E120, 0, 0, 0, 0);
            desk.argument("a byte of 225 is no letter a", roads::sentence);
            desk.due("its place", roads.fault(), 2);
        });
        document.holds(2, "NONE, and none come, if it would have more than 400.", () -> {
            for (int bytes = 379; bytes <= 400; bytes++) {
                PhraseRoads roads = new PhraseRoads();
                fill(roads, bytes);
                desk.due("of " + bytes, feedZ(roads), bytes > 380 ? -1 : bytes + 20);
                desk.due("none come behind " + bytes, roads.end(bytes + 1), bytes <= 380);
                if (bytes > 380) {
                    desk.due("and what is there stays", roads.end(bytes), true);
                    desk.due("it reads as before", roads.sentence(), 1);
                    desk.due("the word", roads.letter(0, 0), 'h' - 'a');
                }
            }
        });
        document.holds(3, "The TAPE has its first n bytes alone: true", () -> {
            PhraseRoads roads = new PhraseRoads();
            desk.due("nothing of nothing", roads.end(0), true);
            fill(roads, 400);
            desk.due("all of them", roads.end(400), true);
            desk.due("the first one", roads.end(1), true);
            desk.due("the others are gone", roads.end(2), false);
            desk.due("what comes then comes behind the first one", roads.feed(0x6F000000, 0, 0, 0, 0), 21);
            roads.end(2);
            desk.due("word", roads.sentence(), 1);
            desk.due("h", roads.letter(0, 0), 'h' - 'a');
            desk.due("o", roads.letter(0, 1), 'o' - 'a');
        });
        document.holds(3, "The TAPE has its first n bytes alone", () -> {
            cutShort("book", "a=b 123", 5, 1);
            cutShort("book", "a=b 1;c=d 1", 5, 1);
            cutShort("book", "a=b 1 ; c=d 1", 6, 1);
            cutShort("book", "abcdefghij", 0, 0);
            cutShort("fluency", "a b 12345", 6, 1);
            cutShort("sentence", "abcdefghij", 8, 1);
            cutShort("sentence", "a b c d e f g", 11, 6);
            cutShort("sentence", "a b c d e f g", 12, 6);
            cutShort("learn", "a=b/0 01", 7, 1);
            cutShort("learn", "a=b/0 0;0 0", 7, 1);
            cutShort("near", "ab?", 2, 1);
            for (int length = 0; length < 8; length++) {
                int bytes = length;
                PhraseRoads roads = new PhraseRoads();
                desk.argument("a lesson cut at " + bytes, () -> cutAndRead(roads, "learn", "ab=cd/0 0", bytes));
                desk.due("a lesson cut at " + bytes + ": fault()", roads.fault(), bytes);
            }
        });
        document.holds(2, "NONE, and none come, if it would have more than 400.", () -> {
            String[] ends = {"book", "a=b 7", "book", "a=b 7;a=b 100", "book", "a=b 7;", "book", "a=", "book", "a", "fluency", "^$99", "fluency", "^",
                "sentence", "a z", "sentence", "?", "learn", "a=b/0 0", "learn", "a=b/0", "learn", "a=b", "near", "", "near", "a", "near", "1"};
            int[] faults = {-1, 397, 400, 400, 400, -1, 400, -1, 399, -1, 400, 400, -1, -1, 399};
            for (int i = 0; i < faults.length; i++) {
                PhraseRoads roads = new PhraseRoads();
                String text = " ".repeat(400 - ends[2 * i + 1].length()) + ends[2 * i + 1];
                String kind = ends[2 * i];
                if (faults[i] == -1) {
                    desk.due("400 bytes of " + kind, Desk.read(roads, kind, text) >= 0, true);
                } else {
                    desk.argument("400 bytes of " + kind, () -> Desk.read(roads, kind, text));
                }
                desk.due("400 bytes of " + kind + " ending in \"" + ends[2 * i + 1] + "\": fault()", roads.fault(), faults[i]);
            }
        });
        document.holds(3, "false, and nothing happens, if it has fewer, or n is below 0.", () -> {
            for (int n : new int[] {401, 21, Integer.MAX_VALUE, -1, -20, Integer.MIN_VALUE}) {
                PhraseRoads roads = new PhraseRoads();
                fill(roads, 20);
                desk.due("end(" + n + ")", roads.end(n), false);
                desk.due("nothing more behind end(" + n + ")", roads.end(21), false);
                desk.due("nothing less behind end(" + n + ")", roads.end(20), true);
                desk.due("it reads as before", roads.sentence(), 1);
                desk.due("nothing of an empty one", roads.end(n), false);
            }
        });
        document.holds(6, "Uses the TAPE up", () -> {
            for (String kind : new String[] {"book", "fluency", "sentence", "forced", "near", "match 1", "tuned"}) {
                PhraseRoads roads = new PhraseRoads();
                Desk.read(roads, kind, "  ");
                desk.due(kind + " of a right text", roads.end(1), false);
                desk.argument(kind + " of a wrong text", () -> Desk.read(roads, kind, "a ?"));
                desk.due(kind + " of a wrong text", roads.end(1), false);
                desk.due(kind + ": then the tape begins anew", feedZ(roads), 20);
            }
        });
    }

    /** More bytes lie behind those that are read, from what was fed before. */
    private void cutShort(String kind, String text, int bytes, int want) {
        desk.due(kind + " of the first " + bytes + " of \"" + text + "\"", cutAndRead(new PhraseRoads(), kind, text, bytes), want);
    }

    private static int cutAndRead(PhraseRoads roads, String kind, String text, int bytes) {
        Desk.tape(roads, text);
        roads.end(bytes);
        switch (kind) {
            case "book": return roads.book();
            case "fluency": return roads.fluency();
            case "sentence": return roads.sentence();
            case "learn": return roads.learn();
            default: return roads.near();
        }
    }

    /** 7 where the text was refused. */
    private static int answerOf(PhraseRoads roads) {
        try {
            return roads.sentence();
        } catch (IllegalArgumentException e) {
            return 7;
        }
    }

    private static String word(int i) {
        return "w" + (char) ('a' + i / 26) + (char) ('a' + i % 26);
    }

    /** An object that has so many words, none of them "x" and its like. */
    private static PhraseRoads withWords(int many) {
        PhraseRoads roads = new PhraseRoads();
        StringBuilder text = new StringBuilder();
        for (int i = 0; i < many; i++) {
            text.append(word(i)).append(' ');
            if (i % 6 == 5 || i == many - 1) {
                Desk.sentence(roads, text.toString());
                text.setLength(0);
            }
        }
        return roads;
    }

    private void words() {
        document.holds(6, "WORDS (at most 40, numbered from 0 on as they first came in a text that was right)", () -> {
            PhraseRoads roads = withWords(39);
            desk.right(roads, "sentence", "waa last waa last", 4);
            desk.due("forty", roads.count(0), 40);
            desk.due("the fortieth", roads.place(1), 39);
            desk.due("its letter", roads.letter(39, 3), 't' - 'a');
            desk.index("no 41st", () -> roads.letter(40, 0));
            for (String text : new String[] {"x", "waa x", "x x"}) {
                desk.faulty(roads, "sentence", text, text.indexOf('x'));
            }
            desk.right(roads, "sentence", "last wbl", 2);
            desk.due("as they first came", roads.place(1), 37);
            desk.due("forty still", roads.count(0), 40);
        });
        document.holds(4, "a WORD that would be the 41st one", () -> {
            desk.faulty(withWords(40), "book", "waa x=waa 1", 4);
            desk.faulty(withWords(40), "book", "waa=waa x 1", 8);
            desk.faulty(withWords(39), "book", "x=waa 1;x y=waa 1", 10);
            desk.faulty(withWords(40), "fluency", "x $ 1", 0);
            desk.faulty(withWords(40), "fluency", "^ x 1", 2);
            desk.faulty(withWords(39), "fluency", "x y 1", 2);
            desk.faulty(withWords(38), "sentence", "x y z", 4);
            desk.faulty(withWords(40), "learn", "x=waa/0 0", 0);
            desk.faulty(withWords(40), "learn", "waa=x/0 0", 4);
            desk.faulty(withWords(39), "learn", "x=y/0 0", 2);
            desk.right(withWords(40), "book", "waa wab wac=wad wae waf 1", 1);
            desk.right(withWords(38), "fluency", "x y 1;y x 1;x x 1", 3);
            desk.right(withWords(38), "learn", "x=y/0 0", 1);
            for (String kind : TOLD) {
                PhraseRoads roads = withWords(40);
                Desk.read(roads, kind, "x y z");
                desk.due(kind + " has words that are none", roads.fault(), -1);
                desk.due(kind + ": still forty", roads.count(0), 40);
            }
        });
        document.holds(9, "1 to 8 letters a to z", () -> {
            PhraseRoads roads = new PhraseRoads();
            desk.right(roads, "sentence", "a z abcdefgh zyxwvuts abcdefg abcdefgz", 6);
            desk.due("all unlike", roads.count(0), 6);
            desk.due("a", roads.letter(0, 0), 0);
            desk.due("z", roads.letter(1, 0), 25);
            desk.due("no second letter", roads.letter(0, 1), -1);
            desk.due("the eighth letter", roads.letter(2, 7), 7);
            desk.due("no ninth letter", roads.letter(2, 8), -1);
            desk.due("no eighth one of seven", roads.letter(4, 7), -1);
            for (String sign : new String[] {"`", "{", "A", "Z", "@", "[", "_", "-", "'", ".", "\u00e1"}) {
                desk.faulty(roads, "sentence", sign, 0);
                desk.faulty(roads, "sentence", "ab" + sign, 2);
            }
        });
        document.holds(8, "a word of more than 8 letters", () -> {
            desk.faulty(new PhraseRoads(), "sentence", "abcdefghi", 0);
            desk.faulty(new PhraseRoads(), "sentence", "a  abcdefghijklmnopqrstuvwxyz", 3);
            desk.faulty(new PhraseRoads(), "book", "abcdefghi=a 1", 0);
            desk.faulty(new PhraseRoads(), "book", "a=b abcdefghi 1", 4);
            desk.faulty(new PhraseRoads(), "fluency", "abcdefghi a 1", 0);
            desk.faulty(new PhraseRoads(), "fluency", "a abcdefghi 1", 2);
            desk.faulty(new PhraseRoads(), "learn", "abcdefghi=a/0 0", 0);
            desk.faulty(new PhraseRoads(), "learn", "a=abcdefghi/0 0", 2);
            for (String kind : TOLD) {
                desk.faulty(new PhraseRoads(), kind, "a abcdefghi", 2);
                Desk.read(new PhraseRoads(), kind, "abcdefgh");
            }
        });
        document.holds(6, "words as long as a to z go on", () -> {
            PhraseRoads roads = new PhraseRoads();
            desk.right(roads, "sentence", "ab", 1);
            desk.right(roads, "sentence", "a b", 2);
            desk.right(roads, "sentence", "ab a b", 3);
            desk.due("three words", roads.count(0), 3);
            desk.right(new PhraseRoads(), "book", "ab=cd1;a b=c d1", 2);
            desk.right(new PhraseRoads(), "fluency", "^a1;a$1;^$1", 3);
            desk.faulty(new PhraseRoads(), "fluency", "ab 1", 3);
        });
    }

    private void phrases() {
        document.holds(4, "SOURCE, 1 to 3 WORDS, TARGET, 0 to 3 WORDS, COST 0 to 99.", () -> {
            PhraseRoads roads = new PhraseRoads();
            desk.right(roads, "book", "a=0;a b c=d e f 99;a b=g 50", 3);
            int[][] want = {{1, 0, 0}, {3, 3, 99}, {2, 1, 50}};
            for (int phrase = 0; phrase < 3; phrase++) {
                for (int what = 0; what < 3; what++) {
                    desk.due("phrase(" + phrase + ", " + what + ")", roads.phrase(phrase, what), want[phrase][what]);
                }
            }
            desk.faulty(roads, "book", "=a 1", 0);
            desk.faulty(roads, "book", "a b c d=a 1", 6);
            desk.faulty(roads, "book", "a=a b c d 1", 8);
            desk.faulty(roads, "book", "a=a 100", 4);
        });
        document.holds(4, "PHRASES (at most 30, numbered from 0 on as they came, GONE or not)", () -> {
            PhraseRoads roads = withPhrases(29);
            roads.drop(0, true);
            roads.drop(28, true);
            desk.right(roads, "book", "last=last 5", 1);
            desk.due("the thirtieth", roads.phrase(29, 2), 5);
            desk.due("thirty", roads.count(1), 30);
            desk.due("two are gone", roads.count(9), 28);
            desk.index("no 31st", () -> roads.phrase(30, 0));
            desk.faulty(roads, "book", "more=last 5", 0);
            desk.faulty(roads, "book", "a=x 5", 0);
            desk.due("still thirty", roads.count(1), 30);
        });
    }

    /** Phrases a=x, a=y, a=z, b=x and so on, of cost 1. */
    private static PhraseRoads withPhrases(int many) {
        PhraseRoads roads = new PhraseRoads();
        StringBuilder text = new StringBuilder();
        for (int i = 0; i < many; i++) {
            text.append(text.length() == 0 ? "" : ";").append((char) ('a' + i / 3)).append('=').append("xyz".charAt(i % 3)).append(" 1");
            if (i % 12 == 11 || i == many - 1) {
                Desk.book(roads, text.toString());
                text.setLength(0);
            }
        }
        return roads;
    }

    /** Pairs a a, a b, up to h h, each 1. */
    private static PhraseRoads withPairs(int many) {
        PhraseRoads roads = new PhraseRoads();
        StringBuilder text = new StringBuilder();
        for (int i = 0; i < many; i++) {
            text.append(text.length() == 0 ? "" : ";").append((char) ('a' + i / 8)).append(' ').append((char) ('a' + i % 8)).append(" 1");
            if (i % 12 == 11 || i == many - 1) {
                Desk.fluency(roads, text.toString());
                text.setLength(0);
            }
        }
        return roads;
    }

    private void pairs() {
        document.holds(5, "(in place of the first one may be THE BEGIN, in place of the second one THE END)", () -> {
            PhraseRoads roads = new PhraseRoads();
            desk.right(roads, "fluency", "^ $ 1;^ a 2;a $ 3;a a 4", 4);
            desk.due("begin and end", roads.after(-1, -1), 1);
            desk.due("begin", roads.after(-1, 0), 2);
            desk.due("end", roads.after(0, -1), 3);
            desk.due("neither", roads.after(0, 0), 4);
            desk.faulty(roads, "fluency", "$ a 1", 0);
            desk.faulty(roads, "fluency", "$ $ 1", 0);
            desk.faulty(roads, "fluency", "a ^ 1", 2);
            desk.faulty(roads, "fluency", "^ ^ 1", 2);
            desk.faulty(roads, "book", "^=a 1", 0);
            desk.faulty(roads, "sentence", "a $", 2);
        });
        document.holds(5, "0 to 99 of pairs that are told (at most 60), UNSEEN of all others", () -> {
            PhraseRoads roads = withPairs(59);
            desk.right(roads, "fluency", "^ $ 0", 60);
            desk.due("sixty", roads.count(2), 60);
            desk.faulty(roads, "fluency", "^ a 99", 0);
            desk.right(roads, "fluency", "^ $ 99", 60);
            desk.due("told, 99", roads.after(-1, -1), 99);
            desk.due("another, unseen", roads.after(-1, 0), 20);
            roads.tune(0, 0);
            desk.due("another, unseen 0", roads.after(-1, 0), 0);
            roads.tune(0, 99);
            desk.due("another, unseen 99", roads.after(0, -1), 99);
            desk.due("told, whatever unseen is", roads.after(0, 0), 1);
            desk.faulty(roads, "fluency", "^ $ 100", 4);
        });
    }

    private static String times(String one, int many) {
        StringBuilder text = new StringBuilder(one);
        for (int i = 1; i < many; i++) {
            text.append(';').append(one);
        }
        return text.toString();
    }

    private void bookTexts() {
        document.holds(4, "ENTRY { ; ENTRY }, at most 12", () -> {
            for (int many = 1; many <= 12; many++) {
                desk.right(new PhraseRoads(), "book", times("a=b 1", many), 1);
            }
            desk.faulty(new PhraseRoads(), "book", times("a=b 1", 12) + ";  a=b 1", 74);
            desk.faulty(new PhraseRoads(), "book", times("a=b 1", 14), 72);
            desk.faulty(new PhraseRoads(), "book", times("a=b 1", 12) + ";?", 72);
            desk.faulty(new PhraseRoads(), "book", times("a=b 1", 12) + "; ", 73);
            desk.faulty(new PhraseRoads(), "book", times("a=b 1", 12) + "a=b 1", 71);
        });
        document.holds(4, "1 to 3 W ahead of =, 0 to 3 behind it", () -> {
            desk.right(new PhraseRoads(), "book", "a a a=a a a 1;a=1;a a=a 1", 3);
            desk.faulty(new PhraseRoads(), "book", " = 1", 1);
            desk.faulty(new PhraseRoads(), "book", "a a a  a=1", 7);
            desk.faulty(new PhraseRoads(), "book", "a=a a a  a 1", 9);
            desk.faulty(new PhraseRoads(), "book", "a=1;=1", 4);
        });
        document.holds(4, "if there is one of both already that is not GONE, N is its COST from now on, and none comes", () -> {
            PhraseRoads roads = new PhraseRoads();
            desk.right(roads, "book", "a=b 1", 1);
            desk.right(roads, "book", "a = b 99", 0);
            desk.due("its cost", roads.phrase(0, 2), 99);
            desk.due("one", roads.count(1), 1);
            desk.right(roads, "book", "a=b 5;a=b 6;a=7;a=8;a=b b 9;a a=b 10;b=a 11", 4);
            desk.due("the last one told", roads.phrase(0, 2), 6);
            desk.due("of this text, too", roads.phrase(1, 2), 8);
            desk.due("another target", roads.phrase(2, 2), 9);
            desk.due("another source", roads.phrase(3, 2), 10);
            desk.due("the other way round", roads.phrase(4, 2), 11);
        });
        document.holds(4, "if there is one of both already that is not GONE", () -> {
            PhraseRoads roads = new PhraseRoads();
            Desk.book(roads, "a=b 1");
            roads.drop(0, true);
            desk.right(roads, "book", "a=b 2;a=b 3", 1);
            desk.due("the one gone stays as it was", roads.phrase(0, 2), 1);
            desk.due("and gone", roads.phrase(0, 3), 1);
            desk.due("the other one's cost", roads.phrase(1, 2), 3);
            roads.drop(1, true);
            desk.right(roads, "book", "a=b 4", 1);
            desk.due("three of the same words", roads.count(1), 3);
            desk.due("one that is there", roads.count(9), 1);
        });
        document.holds(4, "A text of THE BOOK or of FLUENCY that is empty, or blanks alone, has no ENTRY, no PAIR.", () -> {
            for (String text : new String[] {"", " ", "                    "}) {
                PhraseRoads roads = withPhrases(2);
                Desk.fluency(roads, "a b 1;b a 1");
                desk.right(roads, "book", text, 0);
                desk.right(roads, "fluency", text, 2);
                desk.due("phrases stay", roads.count(1), 2);
                desk.due("pairs stay", roads.count(2), 2);
                desk.right(new PhraseRoads(), "fluency", text, 0);
            }
        });
    }

    private void fluencyTexts() {
        document.holds(5, "PAIR { ; PAIR }, at most 12", () -> {
            for (int many = 1; many <= 12; many++) {
                desk.right(new PhraseRoads(), "fluency", times("a b 1", many), 1);
            }
            desk.faulty(new PhraseRoads(), "fluency", times("a b 1", 12) + " ;  ^ b 1", 75);
            desk.faulty(new PhraseRoads(), "fluency", times("a b 1", 13), 72);
            desk.faulty(new PhraseRoads(), "fluency", times("a b 1", 12) + ";", 72);
        });
        document.holds(5, "in place of what was told of that pair", () -> {
            PhraseRoads roads = new PhraseRoads();
            desk.right(roads, "fluency", "a b 99;b a 3", 2);
            desk.right(roads, "fluency", "a b 0", 2);
            desk.due("told anew", roads.after(0, 1), 0);
            desk.due("not the other way round", roads.after(1, 0), 3);
            desk.right(roads, "fluency", "a b 5;a b 6;^ a 7;^ a 8", 3);
            desk.due("the last one of a text", roads.after(0, 1), 6);
            desk.due("the last one behind the begin", roads.after(-1, 0), 8);
        });
    }

    private void sentenceTexts() {
        document.holds(6, "THE SENTENCE is told by a text: { W }, at most 6, in place of the one before.", () -> {
            PhraseRoads roads = new PhraseRoads();
            desk.right(roads, "sentence", "a b c d e f", 6);
            desk.faulty(roads, "sentence", "a b c d e f  g", 13);
            desk.faulty(roads, "sentence", "a b c d e f a", 12);
            desk.due("the one before stays", roads.count(3), 6);
            desk.right(roads, "sentence", "f", 1);
            desk.due("in place of it", roads.place(0), 5);
            desk.index("the rest is gone", () -> roads.place(1));
            desk.right(roads, "sentence", "   ", 0);
            desk.right(roads, "sentence", "a a a a a a", 6);
            desk.due("the same word at all", roads.place(5), 0);
        });
    }

    private void lessonTexts() {
        document.holds(7, "at most 6 W ahead of = and behind it", () -> {
            desk.right(new PhraseRoads(), "learn", SIX, 15);
            desk.right(new PhraseRoads(), "learn", "a=b/0 0", 1);
            desk.faulty(new PhraseRoads(), "learn", "a b c d e f g=h/0 0", 12);
            desk.faulty(new PhraseRoads(), "learn", "a=b c d e f g  h/0 0", 15);
        });
        document.holds(7, "A LESSON is told by a text: W { W } = W { W } / N N { ; N N }", () -> {
            desk.faulty(new PhraseRoads(), "learn", "", 0);
            desk.faulty(new PhraseRoads(), "learn", "    ", 4);
            desk.faulty(new PhraseRoads(), "learn", "=b/0 0", 0);
            desk.faulty(new PhraseRoads(), "learn", "a=/0 0", 2);
            desk.faulty(new PhraseRoads(), "learn", "a=b/", 4);
            desk.faulty(new PhraseRoads(), "learn", "a=b", 3);
            desk.faulty(new PhraseRoads(), "learn", "a=b/0", 5);
            desk.faulty(new PhraseRoads(), "learn", "a=b/0 0;", 8);
            desk.faulty(new PhraseRoads(), "learn", "a=b/0 0; ", 9);
            desk.faulty(new PhraseRoads(), "learn", "a=b/;", 4);
            desk.faulty(new PhraseRoads(), "learn", "a=b 0 0", 4);
            desk.faulty(new PhraseRoads(), "learn", "a=b/0 0 0", 8);
            desk.faulty(new PhraseRoads(), "learn", "a=b/a", 4);
        });
        document.holds(7, "links: a place ahead of = and one behind it, each from 0 on, at most 12, no link twice", () -> {
            String twelve = "a b c d=e f g/0 0;0 1;0 2;1 0;1 1;1 2;2 0;2 1;2 2;3 0;3 1;3 2";
            desk.right(new PhraseRoads(), "learn", twelve, 0);
            String more = "a b c d e=e f g/0 0;0 1;0 2;1 0;1 1;1 2;2 0;2 1;2 2;3 0;3 1;3 2";
            desk.faulty(new PhraseRoads(), "learn", more + "; 4 0", more.length() + 2);
            desk.faulty(new PhraseRoads(), "learn", more + ";9 9", more.length() + 1);
            desk.faulty(new PhraseRoads(), "learn", more + ";", more.length() + 1);
            desk.faulty(new PhraseRoads(), "learn", more + ";0 0;4 0", more.length() + 1);
        });
    }

    private void signs() {
        document.holds(4, "Numbers are of 1 to 3 digits", () -> {
            PhraseRoads roads = new PhraseRoads();
            desk.right(roads, "book", "a=b 0;b=c 07;c=d 099;d=e 99;e=f 000", 5);
            int[] costs = {0, 7, 99, 99, 0};
            for (int phrase = 0; phrase < costs.length; phrase++) {
                desk.due("cost of " + phrase, roads.phrase(phrase, 2), costs[phrase]);
            }
            desk.right(roads, "fluency", "a b 007;b a 8", 2);
            desk.due("of three digits", roads.after(0, 1), 7);
            desk.right(new PhraseRoads(), "learn", "a b=c/001 000", 2);
            for (String digit : new String[] {"/", ":", "+", "-", "."}) {
                desk.faulty(roads, "book", "a=b " + digit, 4);
                desk.faulty(roads, "book", "a=b 1" + digit, 5);
            }
        });
        document.holds(8, "a number of more digits, or out of its bounds", () -> {
            PhraseRoads roads = new PhraseRoads();
            for (String number : new String[] {"100", "999", "0000", "0001", "1234567890123456789", "4294967296", "000000000000000000001"}) {
                desk.faulty(roads, "book", "a=b  " + number, 5);
                desk.faulty(roads, "fluency", "a b " + number, 4);
                desk.faulty(roads, "learn", "a=b/ " + number + " 0", 5);
                desk.faulty(roads, "learn", "a=b/0 " + number, 6);
            }
        });
        document.holds(4, "between all there may be blanks (32), also ahead and behind", () -> {
            desk.right(new PhraseRoads(), "book", "   a   b  =   c   d   7   ;   a  =  8   ", 2);
            desk.right(new PhraseRoads(), "book", "a b=c d7;a=8", 2);
            desk.right(new PhraseRoads(), "fluency", "   ^   $   7   ;  a  b  8  ", 2);
            desk.right(new PhraseRoads(), "fluency", "^$7;a b8", 2);
            desk.right(new PhraseRoads(), "sentence", "    a    b    ", 2);
            desk.right(new PhraseRoads(), "learn", "   a   b   =   c   d   /   0   0   ;   1   1   ", 3);
            desk.right(new PhraseRoads(), "learn", "a b=c d/0 0;1 1", 3);
            desk.right(new PhraseRoads(), "near", "    a   b   ", 2);
            for (int sign : new int[] {0, 9, 10, 13, 31, 33, 127, 160, 255}) {
                desk.faulty(new PhraseRoads(), "sentence", "a" + (char) sign + "b", 1);
                desk.faulty(new PhraseRoads(), "book", "a=b" + (char) sign + "1", 3);
                desk.faulty(new PhraseRoads(), "fluency", (char) sign + "a b 1", 0);
                desk.faulty(new PhraseRoads(), "near", "a " + (char) sign, 2);
            }
            desk.faulty(new PhraseRoads(), "book", "a=b 1 2", 6);
        });
    }

    private void wrongBytes() {
        document.holds(8, "The first wrong byte: the begin of the first thing that cannot stand there", () -> {
            String[] books = {"a=b 1 c", "a=b 1;;", "a;b", "a=b;", "a b 1", "a==b 1", "a=b=c 1", "1=a 1", "a=b 1 ; 2", "?=b 100", "a=b 100;?"};
            int[] places = {6, 6, 1, 3, 4, 2, 3, 0, 8, 0, 4};
            for (int i = 0; i < books.length; i++) {
                desk.faulty(new PhraseRoads(), "book", books[i], places[i]);
            }
            String[] pairs = {"a b c 1", "a b 1 2", "1 a 1", "a;b 1", "a b;", ";a b 1", "a b 1;;", "a b 1 a b 1"};
            int[] pairPlaces = {4, 6, 0, 1, 3, 0, 6, 6};
            for (int i = 0; i < pairs.length; i++) {
                desk.faulty(new PhraseRoads(), "fluency", pairs[i], pairPlaces[i]);
            }
            String[] lessons = {"a/b=0 0", "a=b=c/0 0", "a=b/0 0/", "a;b", "a=b;0 0", "1=b/0 0", "a=b/0;0", "a=b/0 0;;", "a=b/0 0 ; 0 x"};
            int[] lessonPlaces = {1, 3, 7, 1, 3, 0, 5, 8, 12};
            for (int i = 0; i < lessons.length; i++) {
                desk.faulty(new PhraseRoads(), "learn", lessons[i], lessonPlaces[i]);
            }
            desk.faulty(new PhraseRoads(), "sentence", "a b=c", 3);
            desk.faulty(new PhraseRoads(), "sentence", "a; b", 1);
        });
        document.holds(8, "or the text's length, if more must come", () -> {
            lengths("book", "a b = c d 1 ; e", 0, 11, 12);
            lengths("fluency", "^ a 1 ; b $", 0, 5, 6);
            lengths("learn", "a b = c d / 0 0 ; 1 1 ; 0", 15, 16, 21, 22);
            desk.faulty(new PhraseRoads(), "book", "a=b      ", 9);
            desk.faulty(new PhraseRoads(), "fluency", "^      ", 7);
        });
        document.holds(8, "a W, an ENTRY, a PAIR, a link too many: its first byte", () -> {
            desk.faulty(new PhraseRoads(), "book", "a a a   abcdefghi=b 1", 8);
            desk.faulty(new PhraseRoads(), "book", times("a=b 1", 12) + ";   abcdefghi", 75);
            desk.faulty(new PhraseRoads(), "fluency", times("a b 1", 12) + ";   a b 100", 75);
            desk.faulty(new PhraseRoads(), "sentence", "a a a a a a   abc", 14);
            String twelve = "a b c d=e f g/0 0;0 1;0 2;1 0;1 1;1 2;2 0;2 1;2 2;3 0;3 1;3 2";
            desk.faulty(new PhraseRoads(), "learn", twelve + ";   0 0", twelve.length() + 4);
            desk.faulty(new PhraseRoads(), "learn", "a a a a a a   a=b/0 0", 14);
            desk.faulty(new PhraseRoads(), "learn", "a=b b b b b b   b/0 0", 16);
        });
    }

    /** A text cut short is wrong at its end, but for the lengths at which it is whole. */
    private void lengths(String kind, String text, int... whole) {
        for (int length = 0; length <= text.length(); length++) {
            String cut = text.substring(0, length);
            boolean right = false;
            for (int one : whole) {
                right |= one == length;
            }
            if (right) {
                Desk.read(new PhraseRoads(), kind, cut);
            } else {
                desk.faulty(new PhraseRoads(), kind, cut, length);
            }
        }
    }

    private void wrongLinks() {
        document.holds(7, "of a link that is there already, and of places that there are not, the number: of a link twice the first number", () -> {
            desk.faulty(new PhraseRoads(), "learn", "a b=c d e/2 0", 10);
            desk.faulty(new PhraseRoads(), "learn", "a b=c d e/1   3", 14);
            desk.faulty(new PhraseRoads(), "learn", "a b=c d e/99 99", 10);
            desk.right(new PhraseRoads(), "learn", "a b=c d e/1 2", 6);
            desk.right(new PhraseRoads(), "learn", "a b=c d e/0 1;1 0", 5);
            desk.faulty(new PhraseRoads(), "learn", "a b=c d e/0 1; 0   1", 15);
            desk.faulty(new PhraseRoads(), "learn", "a b=c d e/0 1;1 0;0 1;9 9", 18);
            desk.faulty(new PhraseRoads(), "learn", "a b=c d e/0 1;1 0;9 9;0 1", 18);
            desk.faulty(new PhraseRoads(), "learn", "a b=c d e/0 1;000 001", 14);
            desk.right(new PhraseRoads(), "learn", "a b c d e f=a b c d e f/5 5;5 4;4 5;0 5", 0);
        });
    }

    private void fullBook() {
        document.holds(4, "The 31st PHRASE, the 61st pair of FLUENCY: the first byte of its ENTRY, of its PAIR", () -> {
            PhraseRoads roads = withPhrases(29);
            desk.faulty(roads, "book", "a=x 5; j=z 6;   k=x 7", 16);
            desk.due("none of them came", roads.count(1), 29);
            desk.due("no cost was told", roads.phrase(0, 2), 1);
            desk.right(roads, "book", "a=x 5; j=z 6;  j=z 7", 1);
            desk.faulty(roads, "book", "  k=x 7", 2);
        });
        document.holds(4, "that is looked at when all of the text else is right (of several the first)", () -> {
            PhraseRoads roads = withPhrases(30);
            desk.faulty(roads, "book", "k=x 1;a=x 100", 10);
            desk.faulty(roads, "book", "k=x 1;", 6);
            desk.faulty(roads, "book", "k=x 1;l=x 1;?", 12);
            desk.faulty(roads, "book", "a=x 1; k=x 1; l=x 1", 7);
            desk.faulty(roads, "book", times("k=x 1", 12) + ";k=x 1", 72);
            desk.faulty(roads, "book", times("k=x 1", 12), 0);
            roads.drop(0, true);
            desk.faulty(roads, "book", "b=x 1;a=x 1", 6);
            roads.drop(0, false);
            desk.right(roads, "book", "b=x 1;a=x 1", 0);
        });
        document.holds(7, "UnsupportedOperationException: there would be more than 30 PHRASES (nothing stays).", () -> {
            PhraseRoads roads = withPhrases(28);
            roads.drop(0, true);
            int words = roads.count(0);
            String three = "b p=x q/0 0;1 1";
            desk.right(roads, "learn", "b=x/0 0", 0);
            desk.right(roads, "learn", "p=q/0 0", 1);
            desk.due("29", roads.count(1), 29);
            int cost = roads.phrase(3, 2);
            desk.refused("one beyond", UnsupportedOperationException.class, () -> Desk.read(roads, "learn", three.replace('p', 'r')));
            desk.due("no cost is less", roads.phrase(3, 2), cost);
            desk.due("no phrase came", roads.count(1), 29);
            desk.due("no word came", roads.count(0), words + 2);
            desk.due("the tape is used up", roads.end(1), false);
            desk.due("the text was right", roads.fault(), -1);
            desk.right(roads, "learn", three, 1);
            desk.due("thirty", roads.count(1), 30);
            desk.right(roads, "learn", three, 0);
            desk.refused("one that is gone", UnsupportedOperationException.class, () -> Desk.read(roads, "learn", "a=x/0 0"));
        });
        document.holds(7, "IllegalArgumentException: the text is wrong; UnsupportedOperationException", () -> {
            PhraseRoads roads = withPhrases(30);
            desk.faulty(roads, "learn", "p=q/0 0;0 0", 8);
            desk.faulty(roads, "learn", "p=q/0 0 ?", 8);
            desk.refused("a right one", UnsupportedOperationException.class, () -> Desk.read(roads, "learn", "p=q/0 0"));
        });
    }

    private void fullFluency() {
        document.holds(5, "the 61st pair of FLUENCY: the first byte of its ENTRY, of its PAIR", () -> {
            PhraseRoads roads = withPairs(59);
            desk.faulty(roads, "fluency", "a a 5; ^ a 6;   a $ 7; ^ $ 8", 16);
            desk.due("none of them came", roads.count(2), 59);
            desk.due("nothing was told anew", roads.after(0, 0), 1);
            desk.right(roads, "fluency", "a a 5; ^ a 6; ^ a 7; a a 8", 60);
            desk.faulty(roads, "fluency", " a $ 7", 1);
        });
        document.holds(5, "that is looked at when all of the text else is right (of several the first)", () -> {
            PhraseRoads roads = withPairs(60);
            desk.faulty(roads, "fluency", "a a 5;^ a 1;a $ 100", 16);
            desk.faulty(roads, "fluency", "^ a 1;", 6);
            desk.faulty(roads, "fluency", "^ a 1;^ ^ 1", 8);
            desk.faulty(roads, "fluency", "^ a 1;a $ 1", 0);
            desk.faulty(roads, "fluency", times("^ a 1", 13), 72);
            desk.due("nothing stays", roads.after(0, 0), 1);
        });
    }

    private void nothingStays() {
        String[] texts = {"a=x 99;v=w 9;w=w 100", "a b 99;v w 1;v", "v w ?", "a v=x w/0 0;0 0"};
        for (int i = 0; i < LEARNERS.length; i++) {
            String kind = LEARNERS[i];
            String text = texts[i];
            int promise = 4 + i;
            document.holds(promise, "Of a wrong text nothing stays, no WORDS either.", () -> {
                desk.argument(kind, () -> Desk.read(Unchanged.scene(), kind, text));
                new Unchanged(desk).by(kind, Unchanged.TAPE | Unchanged.FAULT, roads -> Desk.read(roads, kind, text));
            });
        }
        document.holds(4, "Of a wrong text nothing stays, no WORDS either.", () -> {
            PhraseRoads roads = withPhrases(29);
            int words = roads.count(0);
            desk.faulty(roads, "book", "v=x 1;w=x 1", 6);
            desk.due("no words of the first entry", roads.count(0), words);
            desk.due("no phrase of it", roads.count(1), 29);
            desk.right(roads, "sentence", "w v", 2);
            desk.due("the next word's number", roads.place(0), words);
        });
        document.holds(5, "Of a wrong text nothing stays, no WORDS either.", () -> {
            PhraseRoads roads = withPairs(59);
            int words = roads.count(0);
            desk.faulty(roads, "fluency", "^ v 1;^ w 1", 6);
            desk.due("no words of the first pair", roads.count(0), words);
            desk.due("no pair of it", roads.count(2), 59);
            desk.right(roads, "sentence", "w", 1);
            desk.due("the next word's number", roads.place(0), words);
            desk.due("nothing is told of it", roads.after(-1, words), 20);
        });
    }

    private void faults() {
        document.holds(8, "The first wrong byte of the latest text that was read (FORCED and its like, too); NONE without one, and ahead of any.", () -> {
            PhraseRoads roads = new PhraseRoads();
            desk.due("ahead of any", roads.fault(), -1);
            int place = 0;
            for (String kind : new String[] {"book", "forced", "fluency", "near", "sentence", "match 1", "learn", "match 3", "tuned"}) {
                place++;
                String text = " ".repeat(place) + "?";
                desk.faulty(roads, kind, text, place);
                desk.due("asked again", roads.fault(), place);
            }
            roads.image();
            desk.right(roads, "near", "", 0);
            desk.faulty(roads, "near", "1", 0);
            roads.back();
            desk.due("going back leaves it", roads.fault(), 0);
            roads.exact();
            roads.tune(0, 1);
            desk.index("no place", () -> roads.place(0));
            desk.due("so do other calls", roads.fault(), 0);
            desk.right(roads, "book", "", 0);
        });
        document.holds(8, "NONE without one", () -> {
            for (String kind : LEARNERS) {
                PhraseRoads roads = new PhraseRoads();
                desk.faulty(roads, kind, "?", 0);
                Desk.read(roads, kind, kind.equals("learn") ? "a=b/0 0" : " ");
                desk.due(kind, roads.fault(), -1);
            }
        });
    }

    private void toldTexts() {
        for (String kind : TOLD) {
            int promise = kind.equals("forced") ? 28 : kind.equals("near") ? 29 : kind.equals("tuned") ? 36 : 30;
            document.holds(promise, "told is a text of THE SENTENCE's form, but of up to 18 W", () -> {
                PhraseRoads roads = new PhraseRoads();
                for (String text : new String[] {"", "  ", "a", EIGHTEEN, "  " + EIGHTEEN + "  "}) {
                    Desk.read(roads, kind, text);
                    desk.due(kind + " of \"" + text + "\"", roads.fault(), -1);
                }
                desk.faulty(roads, kind, EIGHTEEN + "   s", EIGHTEEN.length() + 3);
                desk.faulty(roads, kind, EIGHTEEN + " a", EIGHTEEN.length() + 1);
                desk.faulty(roads, kind, EIGHTEEN + " ?", EIGHTEEN.length() + 1);
                desk.faulty(roads, kind, "a b = c", 4);
                desk.faulty(roads, kind, "^ a", 0);
                desk.faulty(roads, kind, "a 1", 2);
            });
            document.holds(promise, "words that are no WORDS yet are no WORDS by that, and unlike all WORDS", () -> {
                PhraseRoads roads = new PhraseRoads();
                Desk.sentence(roads, "a");
                Desk.read(roads, kind, "b c");
                desk.due(kind + ": no words", roads.count(0), 1);
                desk.index(kind + ": no word 1", () -> roads.letter(1, 0));
                desk.right(roads, "sentence", "c", 1);
                desk.due(kind + ": the next word's number", roads.place(0), 1);
            });
        }
    }
}
