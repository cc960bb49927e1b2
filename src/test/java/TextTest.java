/** Promises 1 to 8: the TAPE, what is read of it, and where a text is wrong. */
public final class TextTest {
    private static final int RIGHT = -1;
    private final Desk desk = new Desk();

    public static void main(String[] args) {
        TextTest test = new TextTest();
        test.tape();
        test.wordsAndNumbers();
        test.bookFaults();
        test.fluencyFaults();
        test.sentenceFaults();
        test.lessonFaults();
        test.toldFaults();
        test.nothingStays();
        test.tooManyWords();
        test.tooManyPhrases();
        test.tooManyPairs();
        test.lessons();
        test.tooManyLearned();
        test.desk.close("TextTest");
    }

    private void tape() {
        PhraseRoads roads = new PhraseRoads();
        desk.due("P3 end(0) of nothing", roads.end(0), true);
        desk.due("P3 end(1) of nothing", roads.end(1), false);
        desk.due("P3 end(-1)", roads.end(-1), false);
        for (int i = 1; i <= 20; i++) {
            desk.due("P2 feed " + i, roads.feed(0x61626364, 0x20202020, 0x20202020, 0x20202020, 0x20202020), 20 * i);
        }
        desk.due("P2 feed of a full tape", roads.feed(0, 0, 0, 0, 0), -1);
        desk.due("P3 end(401)", roads.end(401), false);
        desk.due("P3 end(385)", roads.end(385), true);
        desk.due("P2 feed beyond 400", roads.feed(0, 0, 0, 0, 0), -1);
        desk.due("P3 end(380)", roads.end(380), true);
        desk.due("P2 feed up to 400", roads.feed(0x20202020, 0x20202020, 0x20202020, 0x20202020, 0x20202020), 400);
        desk.due("P3 end(386) behind", roads.end(386), true);
        desk.argument("P6 seven words and more", roads::sentence);
        desk.due("P6 the tape is used up by a wrong text", roads.feed(0x61626364, 0x20200000, 0, 0, 0), 20);
        desk.due("P3 end(6)", roads.end(6), true);
        desk.due("P6 the highest byte comes first", roads.sentence(), 1);
        for (int k = 0; k < 4; k++) {
            desk.due("P2 letter " + k, roads.letter(0, k), k);
        }
        desk.due("P6 the tape is used up", roads.end(1), false);
        desk.due("P8 right", roads.fault(), RIGHT);
    }

    private void look(String kind, String text, int fault) {
        look(new PhraseRoads(), kind, text, fault);
    }

    private void look(PhraseRoads roads, String kind, String text, int fault) {
        String call = kind + " of \"" + text + "\"";
        Desk.tape(roads, text);
        if (fault == RIGHT) {
            read(roads, kind);
        } else {
            desk.argument(call, () -> read(roads, kind));
        }
        desk.due(call + ": fault()", roads.fault(), fault);
        desk.due(call + ": tape used up", roads.end(1), false);
    }

    private static int read(PhraseRoads roads, String kind) {
        switch (kind) {
            case "book": return roads.book();
            case "fluency": return roads.fluency();
            case "sentence": return roads.sentence();
            case "learn": return roads.learn();
            case "forced": return roads.forced();
            case "near": return roads.near();
            case "match": return roads.match(2);
            default: return roads.tuned();
        }
    }

    private void wordsAndNumbers() {
        PhraseRoads roads = new PhraseRoads();
        desk.due("P8 ahead of any text", roads.fault(), -1);
        desk.due("P4 cost of three digits", Desk.book(roads, "a=b 007"), 1);
        desk.due("P4 cost 7", roads.phrase(0, 2), 7);
        desk.due("P4 without blanks", Desk.book(roads, "c=d12;e=5"), 2);
        desk.due("P4 cost 12", roads.phrase(1, 2), 12);
        desk.due("P4 empty target", roads.phrase(2, 1), 0);
        desk.due("P4 cost 5", roads.phrase(2, 2), 5);
        desk.due("P4 with blanks", Desk.book(roads, "   f   g =  h   i  j 99   ;  k = 0  "), 2);
        desk.due("P4 source", roads.phrase(3, 0), 2);
        desk.due("P4 target", roads.phrase(3, 1), 3);
        desk.due("P4 cost 99", roads.phrase(3, 2), 99);
        desk.due("P4 cost told anew, none comes", Desk.book(roads, "a=b 3;a=b 4;a=c 5"), 1);
        desk.due("P4 the last cost holds", roads.phrase(0, 2), 4);
        desk.due("P4 empty", Desk.book(roads, ""), 0);
        desk.due("P4 blanks alone", Desk.book(roads, "    "), 0);
        desk.due("P5 empty", Desk.fluency(roads, ""), 0);
        desk.due("P5 without blanks", Desk.fluency(roads, "^$5;^a6;a$7"), 3);
        desk.due("P5 begin to end", roads.after(-1, -1), 5);
        desk.due("P5 begin to a", roads.after(-1, 0), 6);
        desk.due("P5 a to end", roads.after(0, -1), 7);
        desk.due("P5 in place of what was told", Desk.fluency(roads, " ^ a 8 ; a a 1 ; a a 2 "), 4);
        desk.due("P5 told anew", roads.after(-1, 0), 8);
        desk.due("P5 the last one of a text", roads.after(0, 0), 2);
        desk.due("P5 how many pairs then", Desk.fluency(roads, "  "), 4);
        desk.due("P6 in place of the one before", Desk.sentence(roads, " a  a b "), 3);
        desk.due("P6 empty", Desk.sentence(roads, "  "), 0);
        desk.due("P6 no words", roads.count(3), 0);
    }

    private void bookFaults() {
        String[] twelve = new String[12];
        for (int i = 0; i < 12; i++) {
            twelve[i] = "a=b 1";
        }
        String all = String.join(";", twelve);
        look("book", all, RIGHT);
        look("book", all + " ; c=d 1", 74);
        look("book", all + ";=", 72);
        look("book", all + ";", 72);
        look("book", all + " x", 72);
        look("book", "abcdefgh=b 1", RIGHT);
        look("book", "abcdefghi=b 1", 0);
        look("book", "a=bcdefghij 1", 2);
        look("book", "a=b 99", RIGHT);
        look("book", "a=b 100", 4);
        look("book", "a=b 999", 4);
        look("book", "a=b 0099", 4);
        look("book", "a=b 123456789012345", 4);
        look("book", "a=b 1x", 5);
        look("book", "a=b 1 2", 6);
        look("book", "a=b 1;", 6);
        look("book", "a=b 1;  ", 8);
        look("book", "a=b 1;;a=c 1", 6);
        look("book", ";", 0);
        look("book", " =b 1", 1);
        look("book", "a", 1);
        look("book", "a  ", 3);
        look("book", "a 1", 2);
        look("book", "a=", 2);
        look("book", "a=b", 3);
        look("book", "a==b 1", 2);
        look("book", "a b c=d e f 1", RIGHT);
        look("book", "a b c d=e 1", 6);
        look("book", "a=b c d e 1", 8);
        look("book", "A=b 1", 0);
        look("book", "a=B 1", 2);
        look("book", "a=b\t1", 3);
        look("book", "a=b -1", 4);
        look("book", "a=b \0", 4);
        look("book", "\u00ff", 0);
        look("book", "{=b 1", 0);
        look("book", "`=b 1", 0);
        look("book", "a=b :", 4);
        look("book", "a=^ 1", 2);
    }

    private void fluencyFaults() {
        StringBuilder all = new StringBuilder("a a 0");
        for (int i = 1; i < 12; i++) {
            all.append(";a a ").append(i % 10);
        }
        look("fluency", all.toString(), RIGHT);
        look("fluency", all + "; b b 1", 73);
        look("fluency", "^ $ 0", RIGHT);
        look("fluency", "$ a 0", 0);
        look("fluency", "a ^ 0", 2);
        look("fluency", "^ ^ 0", 2);
        look("fluency", "a", 1);
        look("fluency", "a b", 3);
        look("fluency", "a b c", 4);
        look("fluency", "a 1", 2);
        look("fluency", "a b 100", 4);
        look("fluency", "a b 1;", 6);
        look("fluency", "a b 1 c", 6);
        look("fluency", "a abcdefghi 1", 2);
        look("fluency", "a = b 1", 2);
    }

    private void sentenceFaults() {
        look("sentence", "a b c d e f", RIGHT);
        look("sentence", "a b c d e f g", 12);
        look("sentence", "a b c d e f 1", 12);
        look("sentence", "a ; b", 2);
        look("sentence", "  abcdefghi", 2);
        look("sentence", "ab1", 2);
    }

    private void lessonFaults() {
        look("learn", "", 0);
        look("learn", "   ", 3);
        look("learn", "a=b/0 0", RIGHT);
        look("learn", " a = b / 0 0 ", RIGHT);
        look("learn", "a=b/000 00", RIGHT);
        look("learn", "a=b/0000 0", 4);
        look("learn", "a=b/0", 5);
        look("learn", "a=b/00", 6);
        look("learn", "a=b/", 4);
        look("learn", "a=b", 3);
        look("learn", "a", 1);
        look("learn", "a/b", 1);
        look("learn", "=b/0 0", 0);
        look("learn", "a=/0 0", 2);
        look("learn", "a=b/1 0", 4);
        look("learn", "a=b/0 1", 6);
        look("learn", "a b=c d/1 1;1 1", 12);
        look("learn", "a b=c d/1 1;0 2", 14);
        look("learn", "a b=c d/1 1 ; 1 1 ; x", 14);
        look("learn", "a=b/0 0;", 8);
        look("learn", "a=b/0 0 0", 8);
        look("learn", "a=b/0;0", 5);
        look("learn", "a b c d e f=a b c d e f/5 5", RIGHT);
        look("learn", "a b c d e f g=h/0 0", 12);
        look("learn", "h=a b c d e f g/0 0", 14);
        look("learn", "a=abcdefghi/0 0", 2);
        String many = "a b c d=e f g/0 0;0 1;0 2;1 0;1 1;1 2;2 0;2 1;2 2;3 0;3 1;3 2";
        look("learn", many, RIGHT);
        look("learn", many + "; 0 0", many.length() + 2);
        look("learn", many + ";", many.length() + 1);
    }

    private void toldFaults() {
        String eighteen = "a b c d e f g h i j k l m n o p q r";
        for (String kind : new String[] {"forced", "near", "match", "tuned"}) {
            look(kind, "", RIGHT);
            look(kind, "  abcdefgh ", RIGHT);
            look(kind, eighteen, RIGHT);
            look(kind, eighteen + " s", eighteen.length() + 1);
            look(kind, "a abcdefghi", 2);
            look(kind, "a = b", 2);
            look(kind, "7", 0);
        }
        PhraseRoads roads = new PhraseRoads();
        Desk.tape(roads, "x y z");
        roads.near();
        desk.due("P29 told words are no words by that", roads.count(0), 0);
        look(roads, "forced", "a 1", 2);
        Desk.tape(roads, "b");
        desk.argument("P30 match(0)", () -> roads.match(0));
        desk.due("P30 no text is read then", roads.fault(), 2);
        desk.due("P30 the tape is used up all the same", roads.end(1), false);
    }

    private void nothingStays() {
        PhraseRoads roads = new PhraseRoads();
        Desk.book(roads, "a=b 1");
        Desk.sentence(roads, "a");
        Desk.fluency(roads, "a b 3");
        for (String text : new String[] {"a=b 2;c=d 3;", "q=r 1;a=b 9;s"}) {
            look(roads, "book", text, text.length());
        }
        look(roads, "fluency", "a b 4; c d 5; e", 15);
        look(roads, "sentence", "x y z 1", 6);
        look(roads, "learn", "x=y/0 0;0 0", 8);
        desk.due("words", roads.count(0), 2);
        desk.due("phrases", roads.count(1), 1);
        desk.due("pairs", roads.count(2), 1);
        desk.due("sentence", roads.place(0), 0);
        desk.due("cost", roads.phrase(0, 2), 1);
        desk.due("fluency", roads.after(0, 1), 3);
        desk.due("P4 words are numbered as they come", Desk.book(roads, "x=y z 3"), 1);
        desk.due("x", roads.letter(2, 0), 'x' - 'a');
        desk.due("y", roads.letter(3, 0), 'y' - 'a');
        desk.due("z", roads.letter(4, 0), 'z' - 'a');
    }

    private static String word(int i) {
        return "w" + (char) ('a' + i / 26) + (char) ('a' + i % 26);
    }

    private static String words(int from, int to) {
        StringBuilder b = new StringBuilder();
        for (int i = from; i < to; i++) {
            b.append(i == from ? "" : " ").append(word(i));
        }
        return b.toString();
    }

    private void tooManyWords() {
        PhraseRoads roads = new PhraseRoads();
        for (int i = 0; i < 36; i += 6) {
            Desk.sentence(roads, words(i, i + 6));
        }
        Desk.sentence(roads, words(35, 38));
        desk.due("38 words", roads.count(0), 38);
        look(roads, "sentence", words(36, 41), 16);
        desk.due("none of them stays", roads.count(0), 38);
        look(roads, "book", "waa wab=wzz wzy wzx 100", 16);
        look(roads, "fluency", "wzz wzy 1; ^ wzx 1", 13);
        look(roads, "learn", "wzz wzy = wzx / 0 0", 10);
        look(roads, "book", "wzz wzy = wzy wzz wzz 1", RIGHT);
        desk.due("40 words", roads.count(0), 40);
        look(roads, "sentence", "waa b", 4);
        look(roads, "near", "waa b", RIGHT);
        look(roads, "sentence", "wzz waa", RIGHT);
    }

    private void tooManyPhrases() {
        PhraseRoads roads = new PhraseRoads();
        String[] letters = "a b c d e f g h i j".split(" ");
        for (String target : new String[] {"x", "y", "z"}) {
            StringBuilder b = new StringBuilder();
            for (String letter : letters) {
                b.append(b.length() == 0 ? "" : ";").append(letter).append('=').append(target).append(" 1");
            }
            desk.due("P4 ten come", Desk.book(roads, b.toString()), 10);
        }
        look(roads, "book", "a=x 7; b=w 1; c=w 1", 7);
        desk.due("nothing stays of it", roads.phrase(0, 2), 1);
        desk.due("nor words", roads.count(0), 13);
        look(roads, "book", "a=x 7; b=w 1; c=w 100", 18);
        look(roads, "book", "a=x 7; b=w 1;", 13);
        look(roads, "book", "a=x 7; b=x 8", RIGHT);
        desk.due("costs are told", roads.phrase(1, 2), 8);
        roads.drop(0, true);
        look(roads, "book", " a=x 7", 1);
        desk.due("a phrase that is gone counts", roads.count(1), 30);
    }

    private void tooManyPairs() {
        PhraseRoads roads = new PhraseRoads();
        String letters = "abcdefghij";
        for (int i = 0; i < 6; i++) {
            StringBuilder b = new StringBuilder();
            for (int j = 0; j < 10; j++) {
                b.append(j == 0 ? "" : ";").append(letters.charAt(i)).append(' ').append(letters.charAt(j)).append(" 1");
            }
            desk.due("P5 pairs", Desk.fluency(roads, b.toString()), 10 * i + 10);
        }
        look(roads, "fluency", "a a 2;^ a 1;a $ 1", 6);
        desk.due("nothing stays of it", roads.after(0, 0), 1);
        look(roads, "fluency", "a a 2;^ a 1;a $ 100", 16);
        look(roads, "fluency", "a a 2;a b 3", RIGHT);
        desk.due("told anew", roads.after(0, 1), 3);
        desk.due("60 pairs", roads.count(2), 60);
    }

    private void phrase(PhraseRoads roads, int phrase, int source, int target, int cost) {
        desk.due("P7 source of " + phrase, roads.phrase(phrase, 0), source);
        desk.due("P7 target of " + phrase, roads.phrase(phrase, 1), target);
        desk.due("P7 cost of " + phrase, roads.phrase(phrase, 2), cost);
    }

    private void lessons() {
        PhraseRoads roads = new PhraseRoads();
        desk.due("P7 unlinked ones may be in", Desk.learn(roads, "a b=x y/0 0"), 4);
        phrase(roads, 0, 1, 1, 10);
        phrase(roads, 1, 1, 2, 15);
        phrase(roads, 2, 2, 1, 15);
        phrase(roads, 3, 2, 2, 20);
        desk.due("P7 all words are words", roads.count(0), 4);
        roads.drop(0, true);
        roads.price(1, 0);
        desk.due("P7 one that is gone comes again", Desk.learn(roads, "a b=x y/0 0"), 1);
        phrase(roads, 0, 1, 1, 10);
        phrase(roads, 1, 1, 2, 0);
        phrase(roads, 2, 2, 1, 14);
        phrase(roads, 4, 1, 1, 10);
        desk.due("P7 not through others", Desk.learn(new PhraseRoads(), "a b=x y z/0 0;0 2;1 1"), 2);
        desk.due("P7 three words at most", Desk.learn(new PhraseRoads(), "a b c d=x/0 0;3 0"), 0);
        desk.due("P7 three words behind at most", Desk.learn(new PhraseRoads(), "a=w x y z/0 0;0 3"), 0);
        PhraseRoads twice = new PhraseRoads();
        desk.due("P7 twice in a lesson", Desk.learn(twice, "a a=x x/0 0;1 1"), 2);
        phrase(twice, 0, 1, 1, 9);
        phrase(twice, 1, 2, 2, 10);
        desk.due("P7 six words", Desk.learn(new PhraseRoads(), "a b c d e f=g h i j k l/0 0;1 1;2 2;3 3;4 4;5 5"), 15);
    }

    private void tooManyLearned() {
        PhraseRoads roads = new PhraseRoads();
        desk.due("fifteen", Desk.learn(roads, "a b c d e f=g h i j k l/0 0;1 1;2 2;3 3;4 4;5 5"), 15);
        desk.due("six more", Desk.learn(roads, "m b c d e=n h i j p/0 0;1 1;2 2;3 3;4 4"), 6);
        desk.due("three more", Desk.learn(roads, "x y=v w/0 0;1 1"), 3);
        desk.due("24", roads.count(1), 24);
        int cost = roads.phrase(0, 2);
        Desk.tape(roads, "a r s t=g u o q/0 0;1 1;2 2;3 3");
        int words = roads.count(0);
        desk.refused("P7 beyond 30", UnsupportedOperationException.class, roads::learn);
        desk.due("P7 the text was right", roads.fault(), -1);
        desk.due("P7 nothing stays", roads.count(1), 24);
        desk.due("P7 no words", roads.count(0), words);
        desk.due("P7 no cost", roads.phrase(0, 2), cost);
        desk.due("P7 the tape is used up", roads.end(1), false);
        desk.due("P7 up to 30", Desk.learn(roads, "r s t=u o q/0 0;1 1;2 2"), 6);
        Desk.tape(roads, "a=q/0 0");
        desk.refused("P7 the 31st", UnsupportedOperationException.class, roads::learn);
        desk.due("P7 one that is there is no new one", Desk.learn(roads, "a=g/0 0"), 0);
    }
}
