/** A way through all calls: what each answers stands behind it. */
public final class Tour {
    private Tour() {
    }

    public static void main(String[] args) {
        PhraseRoads roads = new PhraseRoads();

        tell(roads, "la = the 3; maison = house 5; bleue = blue 4; maison bleue = blue house 7");
        show(roads.book());                       // 4: phrases that came, numbered 0 to 3
        tell(roads, "^ the 1; the blue 2; blue house 1; house $ 1; the house 4");
        show(roads.fluency());                    // 5: pairs that are told
        tell(roads, "la maison bleue");
        show(roads.sentence());                   // 3: words at places 0 to 2

        show(roads.count(0));                     // 6: words, in the order in which they first came
        show(roads.place(1));                     // 2: the word at place 1, maison
        show(roads.letter(2, 0));                 // 12: its first letter, m (0 for a)
        show(roads.phrase(3, 2));                 // 7: what phrase 3 costs
        show(roads.part(3, true, 0));             // 5: the first word of its target, blue
        show(roads.after(1, 5));                  // 2: blue behind the
        show(roads.after(PhraseRoads.NONE, 5));   // 20: blue at the begin, which nobody told

        show(roads.option(1, 0));                 // 1: the first option at place 1 is phrase 1
        show(roads.option(1, 2));                 // 99: the third one is to pass the word as it is
        show(roads.exact());                      // 15: what the cheapest way costs
        show(roads.many());                       // 52: ways
        show(roads.step(0, 1, 1));                // 3: the cheapest way's second step takes phrase 3
        show(roads.word(0, 1));                   // 5: the second word of its text, blue
        show(roads.way(1, 0));                    // 23: what the second way costs
        show(roads.way(1, 1));                    // 3: its steps
        show(roads.step(1, 2, 0));                // 1: the last of them goes back to place 1
        show(roads.step(1, 2, 2));                // 10: and costs that
        show(roads.way(29, 2));                   // 3: words of the text of the last way that can be asked for
        show(roads.agreed(3));                    // 0: of the first three ways the one that agrees most with them

        show(roads.stretch(0, 2));                // 11: the least that places 0 to 2 may cost, reckoned ahead
        show(roads.tune(4, 1));                   // 8: how wide the stacks were; now one half stays on each
        show(roads.found(0));                     // 15: what the stacks find
        show(roads.halves(1, 0));                 // 1: where its second step begins
        show(roads.stack(2, 0));                  // 5: halves that lay on stack 2
        show(roads.width());                      // 1: how wide the stacks must be to find the cheapest

        tell(roads, "the house blue");
        show(roads.forced());                     // 57: the cheapest way with just this text
        tell(roads, "the red house");
        show(roads.near());                       // 1: words to put in, take out or change
        tell(roads, "the red house");
        show(roads.match(1));                     // 2: words of the cheapest way's text that are there

        show(roads.phrase(3, 5));                 // 8: what phrase 3 is worth
        show(roads.needed());                     // 9: phrases that are worth something, 0 and 3, as bits
        show(roads.idle());                       // 0: phrases that are no option anywhere, as bits

        roads.image();
        show(roads.drop(3, true));                // true: phrase 3 was there and is gone
        show(roads.exact());                      // 23: what is left to go
        show(roads.reach());                      // 2: how far one must jump for that
        show(roads.width());                      // 2: how wide the stacks must be now
        tell(roads, "the house blue");
        show(roads.tuned());                      // 14: the least price of jumping that gives this text
        show(roads.price(1, 6));                  // 5: what phrase 1 cost before
        show(roads.put(2, 2));                    // 4: the word that was at place 2, bleue
        tell(roads, "un chat noir = a black cat / 0 0; 1 2; 2 1");
        show(roads.learn());                      // 5: phrases learned of it
        show(roads.count(1));                     // 9: phrases, the one that is gone too
        show(roads.back());                       // true: all is as it was at image()
        show(roads.count(1));                     // 4: phrases

        tell(roads, "la = the 100");
        try {
            roads.book();
        } catch (IllegalArgumentException wrong) {
            show(roads.fault());                  // 9: where the first wrong thing begins, a number above 99
        }
        try {
            roads.place(3);
        } catch (IndexOutOfBoundsException none) {
            show(roads.count(3));                 // 3: there are places 0 to 2 alone
        }
    }

    /** Puts a text on the TAPE, twenty bytes a call, and cuts the TAPE to its length. */
    private static void tell(PhraseRoads roads, String text) {
        roads.end(0);
        for (int at = 0; at < text.length(); at += 20) {
            roads.feed(four(text, at), four(text, at + 4), four(text, at + 8), four(text, at + 12), four(text, at + 16));
        }
        roads.end(text.length());
    }

    /** Four bytes of a text, the highest first. */
    private static int four(String text, int at) {
        int bytes = 0;
        for (int i = at; i < at + 4; i++) {
            bytes = bytes << 8 | (i < text.length() ? text.charAt(i) : ' ');
        }
        return bytes;
    }

    private static void show(int answer) {
        System.out.println(answer);
    }

    private static void show(boolean answer) {
        System.out.println(answer);
    }
}
