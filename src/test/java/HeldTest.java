/** Promises 1 and 9 to 17, 37 to 39: what is held, told, and gone back to. */
public final class HeldTest {
    private final Desk desk = new Desk();

    public static void main(String[] args) {
        HeldTest test = new HeldTest();
        test.newOne();
        test.wordsAndParts();
        test.fluency();
        test.places();
        test.prices();
        test.drops();
        test.tunes();
        test.images();
        test.desk.close("HeldTest");
    }

    private void newOne() {
        PhraseRoads roads = new PhraseRoads();
        int[] counts = {0, 0, 0, 0, 20, 50, 2, 6, 8, 0, -1};
        for (int what = 0; what < counts.length; what++) {
            desk.due("P1 count(" + what + ")", roads.count(what), counts[what]);
        }
        desk.due("P39 count(-1)", roads.count(-1), -1);
        desk.due("P39 count(MIN)", roads.count(Integer.MIN_VALUE), -1);
        desk.due("P38 back() without an image", roads.back(), false);
        desk.due("P20 exact()", roads.exact(), 20);
    }

    private void wordsAndParts() {
        PhraseRoads roads = new PhraseRoads();
        Desk.book(roads, "az b=c 4;b=7");
        desk.due("P9 a", roads.letter(0, 0), 0);
        desk.due("P9 z", roads.letter(0, 1), 25);
        desk.due("P9 behind", roads.letter(0, 2), -1);
        desk.due("P9 ahead", roads.letter(0, -1), -1);
        desk.index("P9 no such word", () -> roads.letter(3, 0));
        desk.index("P9 below", () -> roads.letter(-1, 0));
        desk.due("P10 source", roads.phrase(0, 0), 2);
        desk.due("P10 target", roads.phrase(0, 1), 1);
        desk.due("P10 cost", roads.phrase(0, 2), 4);
        desk.due("P10 not gone", roads.phrase(0, 3), 0);
        desk.due("P10 no option", roads.phrase(0, 4), 0);
        desk.due("P10 no worth", roads.phrase(0, 5), 0);
        desk.element("P10 another what", () -> roads.phrase(0, 6));
        desk.element("P10 a what below", () -> roads.phrase(0, -1));
        desk.index("P10 no such phrase is told first", () -> roads.phrase(2, 6));
        desk.index("P10 below", () -> roads.phrase(-1, 0));
        desk.due("P11 source 0", roads.part(0, false, 0), 0);
        desk.due("P11 source 1", roads.part(0, false, 1), 1);
        desk.due("P11 source 2", roads.part(0, false, 2), -1);
        desk.due("P11 target 0", roads.part(0, true, 0), 2);
        desk.due("P11 target 1", roads.part(0, true, 1), -1);
        desk.due("P11 below", roads.part(0, true, -1), -1);
        desk.due("P11 empty target", roads.part(1, true, 0), -1);
        desk.index("P11 no such phrase", () -> roads.part(2, true, 0));
        desk.index("P11 phrase below", () -> roads.part(-1, false, 0));
        Desk.sentence(roads, "az b az b b");
        desk.due("P10 option at two places", roads.phrase(0, 4), 2);
        desk.due("P10 option at three places", roads.phrase(1, 4), 3);
        roads.drop(1, true);
        desk.due("P10 gone", roads.phrase(1, 3), 1);
        desk.due("P10 a gone one is no option", roads.phrase(1, 4), 0);
    }

    private void fluency() {
        PhraseRoads roads = new PhraseRoads();
        Desk.fluency(roads, "a b 7;^ a 8;b $ 9;^ $ 0");
        desk.due("P12 a b", roads.after(0, 1), 7);
        desk.due("P12 b a", roads.after(1, 0), 20);
        desk.due("P12 begin a", roads.after(-1, 0), 8);
        desk.due("P12 a end", roads.after(0, -1), 20);
        desk.due("P12 b end", roads.after(1, -1), 9);
        desk.due("P12 begin end", roads.after(-1, -1), 0);
        roads.tune(0, 33);
        desk.due("P12 unseen", roads.after(1, 0), 33);
        desk.due("P12 told stays", roads.after(0, 1), 7);
        desk.index("P12 no first", () -> roads.after(2, 0));
        desk.index("P12 no second", () -> roads.after(0, 2));
        desk.index("P12 first below", () -> roads.after(-2, 0));
        desk.index("P12 second below", () -> roads.after(0, -2));
    }

    private void places() {
        PhraseRoads roads = new PhraseRoads();
        Desk.sentence(roads, "a b a");
        desk.due("P13 first", roads.place(0), 0);
        desk.due("P13 second", roads.place(1), 1);
        desk.due("P13 third", roads.place(2), 0);
        desk.index("P13 behind", () -> roads.place(3));
        desk.index("P13 below", () -> roads.place(-1));
        desk.due("P14 put", roads.put(2, 1), 0);
        desk.due("P14 there", roads.place(2), 1);
        desk.due("P14 the same", roads.put(2, 1), 1);
        desk.index("P14 no place", () -> roads.put(3, 0));
        desk.index("P14 place below", () -> roads.put(-1, 0));
        desk.index("P14 no word", () -> roads.put(0, 2));
        desk.index("P14 word below", () -> roads.put(0, -1));
        desk.due("P14 nothing changed", roads.place(0), 0);
        Desk.book(roads, "b b=c 0");
        desk.due("P14 options are those of what is there", roads.option(1, 0), 0);
        roads.put(2, 0);
        desk.due("P14 and no longer", roads.option(1, 0), 99);
    }

    private void prices() {
        PhraseRoads roads = new PhraseRoads();
        Desk.book(roads, "a=b 7");
        desk.due("P15 was", roads.price(0, 99), 7);
        desk.due("P15 is", roads.phrase(0, 2), 99);
        desk.due("P15 least", roads.price(0, 0), 99);
        desk.argument("P15 100", () -> roads.price(0, 100));
        desk.argument("P15 -1", () -> roads.price(0, -1));
        desk.index("P15 no such phrase is told first", () -> roads.price(1, 100));
        desk.index("P15 phrase below", () -> roads.price(-1, 0));
        roads.drop(0, true);
        desk.due("P15 also of one gone", roads.price(0, 5), 0);
        desk.due("P15 told", roads.phrase(0, 2), 5);
    }

    private void drops() {
        PhraseRoads roads = new PhraseRoads();
        Desk.book(roads, "a=b 7");
        desk.due("P16 there already", roads.drop(0, false), false);
        desk.due("P16 gone", roads.drop(0, true), true);
        desk.due("P16 gone already", roads.drop(0, true), false);
        desk.due("P39 none left", roads.count(9), 0);
        desk.due("P39 phrases", roads.count(1), 1);
        desk.due("P16 there again", roads.drop(0, false), true);
        roads.drop(0, true);
        desk.due("P4 one that is gone is not told anew", Desk.book(roads, "a=b 3;a=c 1"), 2);
        desk.due("P4 its cost stays", roads.phrase(0, 2), 7);
        desk.argument("P16 another one is there", () -> roads.drop(0, false) ? 1 : 0);
        desk.due("P16 still gone", roads.phrase(0, 3), 1);
        desk.due("P16 that one there is no hindrance for itself", roads.drop(1, false), false);
        roads.drop(1, true);
        desk.due("P16 then it may", roads.drop(0, false), true);
        desk.argument("P16 and the other one not", () -> roads.drop(1, false) ? 1 : 0);
        desk.index("P16 no such phrase", () -> roads.drop(3, true) ? 1 : 0);
        desk.index("P16 phrase below", () -> roads.drop(-1, false) ? 1 : 0);
    }

    private void tunes() {
        PhraseRoads roads = new PhraseRoads();
        int[] was = {20, 50, 2, 6, 8};
        int[] least = {0, 0, 0, 0, 1};
        int[] most = {99, 99, 20, 6, 40};
        for (int what = 0; what < 5; what++) {
            int w = what;
            desk.argument("P17 below " + what, () -> roads.tune(w, least[w] - 1));
            desk.argument("P17 above " + what, () -> roads.tune(w, most[w] + 1));
            desk.due("P17 least " + what, roads.tune(what, least[what]), was[what]);
            desk.due("P17 most " + what, roads.tune(what, most[what]), least[what]);
            desk.due("P39 count " + what, roads.count(4 + what), most[what]);
        }
        desk.element("P17 another what", () -> roads.tune(5, 0));
        desk.element("P17 is told first", () -> roads.tune(-1, 1000));
    }

    private void images() {
        PhraseRoads roads = new PhraseRoads();
        Desk.book(roads, "a=b 7;c=d 8");
        Desk.fluency(roads, "a b 3");
        Desk.sentence(roads, "a c");
        roads.drop(1, true);
        roads.tune(2, 5);
        roads.image();
        int exact = roads.exact();
        Desk.book(roads, "e=f 1;a=b 9");
        Desk.fluency(roads, "a b 4;a a 5");
        Desk.sentence(roads, "e e e");
        roads.drop(1, false);
        roads.tune(0, 1);
        roads.tune(1, 2);
        roads.tune(2, 3);
        roads.tune(3, 4);
        roads.tune(4, 5);
        Desk.tape(roads, "1");
        desk.argument("a wrong one", roads::near);
        Desk.tape(roads, "abc");
        desk.due("P38 back", roads.back(), true);
        desk.due("P38 but for fault()", roads.fault(), 0);
        desk.due("P38 but for the tape", roads.end(3), true);
        int[] counts = {4, 2, 1, 2, 20, 50, 5, 6, 8, 1};
        for (int what = 0; what < counts.length; what++) {
            desk.due("P38 count(" + what + ")", roads.count(what), counts[what]);
        }
        desk.due("P38 cost", roads.phrase(0, 2), 7);
        desk.due("P38 gone", roads.phrase(1, 3), 1);
        desk.due("P38 fluency", roads.after(0, 1), 3);
        desk.due("P38 untold", roads.after(0, 0), 20);
        desk.due("P38 place", roads.place(1), 2);
        desk.due("P38 exact", roads.exact(), exact);
        roads.price(0, 1);
        desk.due("P38 the image stays", roads.back(), true);
        desk.due("P38 cost again", roads.phrase(0, 2), 7);
        roads.price(0, 2);
        roads.image();
        roads.price(0, 3);
        roads.back();
        desk.due("P37 the newer image", roads.phrase(0, 2), 2);
        desk.due("P38 new words are numbered behind those of the image", Desk.sentence(roads, "z"), 1);
        desk.due("P38 number", roads.place(0), 4);
    }
}
