import java.util.ArrayList;
import java.util.List;
import java.util.function.Consumer;
import java.util.function.Supplier;
import java.util.function.ToIntFunction;

/**
 * Whether a call leaves an object as it was. Two objects of the same making, one of them with the call
 * behind it, are asked the same: first as they are, then gone back to THE IMAGE. An object answers 512
 * calls alone, so new ones are made again and again.
 */
final class Unchanged {
    /** What a call may change though it changes nothing else. */
    static final int NOTHING = 0;
    static final int TAPE = 1;
    static final int FAULT = 2;
    private static final int ASKED = 200;
    private static final String ON_TAPE = "zz a yy";
    private final Desk desk;

    private record Question(String name, ToIntFunction<PhraseRoads> call) {
    }

    Unchanged(Desk desk) {
        this.desk = desk;
    }

    /** Something of all, each different from what THE IMAGE keeps; a fault, and a text on the TAPE. */
    static PhraseRoads scene() {
        PhraseRoads roads = new PhraseRoads();
        Desk.book(roads, "a=x 3;b=y 4;a b=x y 5;c=6;a=x y z 2");
        Desk.fluency(roads, "^ x 1;x y 2;y $ 3;^ $ 4");
        Desk.sentence(roads, "a b c");
        roads.drop(3, true);
        roads.tune(2, 3);
        roads.image();
        Desk.book(roads, "c=d 7;a=x 8;c=9");
        Desk.fluency(roads, "d $ 5;x y 6");
        Desk.sentence(roads, "b a c a");
        roads.drop(1, true);
        roads.price(3, 50);
        roads.tune(0, 11);
        roads.tune(1, 12);
        roads.tune(2, 1);
        roads.tune(3, 4);
        roads.tune(4, 3);
        try {
            Desk.book(roads, "qq=rr 1;1");
        } catch (IllegalArgumentException e) {
            Desk.tape(roads, ON_TAPE);
        }
        return roads;
    }

    /** The same, but all that may be reckoned beforehand has been. */
    static PhraseRoads warmScene() {
        PhraseRoads roads = scene();
        roads.way(29, 0);
        roads.found(0);
        return roads;
    }

    /** The call is made on such a scene; what it answers or throws is looked at elsewhere. */
    void by(String name, int exempt, Consumer<PhraseRoads> call) {
        compare(name + " on a cold one", false, false, exempt, call);
        compare(name + " on a warm one", true, false, exempt, call);
        compare(name + ", then back", true, true, exempt, call);
    }

    /** A call that does change something: nothing that was reckoned ahead of it is answered behind it. */
    void nothingStale(String name, Consumer<PhraseRoads> call) {
        ask(name + " on a warm one", TAPE, () -> made(false, false, call), () -> made(true, false, call));
    }

    private void compare(String name, boolean warm, boolean back, int exempt, Consumer<PhraseRoads> call) {
        ask(name, exempt, () -> made(warm, back, roads -> { }), () -> made(warm, back, call));
    }

    private void ask(String name, int exempt, Supplier<PhraseRoads> ones, Supplier<PhraseRoads> others) {
        List<Question> questions = questions(exempt);
        PhraseRoads one = null;
        PhraseRoads other = null;
        for (int i = 0; i < questions.size(); i++) {
            if (i % ASKED == 0) {
                one = ones.get();
                other = others.get();
            }
            Question question = questions.get(i);
            desk.due(name + ": " + question.name, answer(other, question), answer(one, question));
        }
        if ((exempt & TAPE) == 0) {
            compareTapes(name, ones.get(), others.get());
        }
        compareTold(name, ones.get(), others.get());
    }

    private static PhraseRoads made(boolean warm, boolean back, Consumer<PhraseRoads> call) {
        PhraseRoads roads = warm ? warmScene() : scene();
        try {
            call.accept(roads);
        } catch (RuntimeException e) {
            // that it throws is the caller's business; here it matters what it leaves
        }
        if (back) {
            roads.back();
        }
        return roads;
    }

    private static long answer(PhraseRoads roads, Question question) {
        try {
            return question.call.applyAsInt(roads);
        } catch (RuntimeException e) {
            return Long.MIN_VALUE + e.getClass().getName().hashCode();
        }
    }

    private void compareTapes(String name, PhraseRoads one, PhraseRoads other) {
        int length = ON_TAPE.length();
        desk.due(name + ": nothing behind what is on the tape", other.end(length + 1), one.end(length + 1));
        desk.due(name + ": what is on the tape", other.end(length), one.end(length));
        desk.due(name + ": words on the tape", other.sentence(), one.sentence());
        for (int place = 0; place < 3; place++) {
            desk.due(name + ": word " + place + " of the tape", other.letter(other.place(place), 0), one.letter(one.place(place), 0));
        }
    }

    private void compareTold(String name, PhraseRoads one, PhraseRoads other) {
        for (String kind : new String[] {"forced", "near", "match 1", "tuned"}) {
            for (String text : new String[] {"", "x y d", "b a c a"}) {
                desk.due(name + ": " + kind + " of " + text, Desk.read(other, kind, text), Desk.read(one, kind, text));
            }
        }
        desk.due(name + ": a new word's number", newWord(other), newWord(one));
        desk.due(name + ": a new phrase's number", newPhrase(other), newPhrase(one));
    }

    private static int newWord(PhraseRoads roads) {
        Desk.sentence(roads, "new");
        return roads.place(0);
    }

    private static int newPhrase(PhraseRoads roads) {
        Desk.book(roads, "new=newer 1");
        return roads.count(1) * 100 + roads.part(roads.count(1) - 1, true, 0);
    }

    private static List<Question> questions(int exempt) {
        List<Question> all = new ArrayList<>();
        if ((exempt & FAULT) == 0) {
            all.add(new Question("fault()", PhraseRoads::fault));
        }
        for (int i = 0; i < 10; i++) {
            int what = i;
            all.add(new Question("count(" + what + ")", roads -> roads.count(what)));
        }
        askHeld(all);
        askWays(all);
        askStacks(all);
        return all;
    }

    private static void askHeld(List<Question> all) {
        for (int i = 0; i < 10; i++) {
            int one = i;
            all.add(new Question("letter(" + one + ", 0)", roads -> roads.letter(one, 0)));
            all.add(new Question("place(" + one + ")", roads -> roads.place(one)));
            for (int j = 0; j < 6; j++) {
                int other = j;
                all.add(new Question("phrase(" + one + ", " + other + ")", roads -> roads.phrase(one, other)));
                all.add(new Question("part(" + one + ", " + other + ")", roads -> roads.part(one, other > 2, other % 3)));
            }
            for (int j = 0; j < 10; j++) {
                int other = j - 1;
                int ahead = one - 1;
                all.add(new Question("after(" + ahead + ", " + other + ")", roads -> roads.after(ahead, other)));
            }
        }
    }

    private static void askWays(List<Question> all) {
        for (int i = 0; i < 30; i++) {
            int k = i;
            for (int j = 0; j < 3; j++) {
                int what = j;
                all.add(new Question("way(" + k + ", " + what + ")", roads -> roads.way(k, what)));
                all.add(new Question("step(" + k + ", 1, " + what + ")", roads -> roads.step(k, 1, what)));
                all.add(new Question("word(" + k + ", " + what + ")", roads -> roads.word(k, what)));
            }
        }
        for (int i = 1; i <= 10; i++) {
            int n = i;
            all.add(new Question("agreed(" + n + ")", roads -> roads.agreed(n)));
        }
        all.add(new Question("exact()", PhraseRoads::exact));
        all.add(new Question("many()", PhraseRoads::many));
        all.add(new Question("needed()", PhraseRoads::needed));
        all.add(new Question("idle()", PhraseRoads::idle));
        all.add(new Question("reach()", PhraseRoads::reach));
    }

    private static void askStacks(List<Question> all) {
        for (int i = 0; i < 5; i++) {
            int one = i;
            all.add(new Question("found(" + one + ")", roads -> roads.found(one)));
            for (int j = 0; j < 5; j++) {
                int other = j;
                all.add(new Question("option(" + one + ", " + other + ")", roads -> roads.option(one, other)));
                all.add(new Question("stretch(" + one + ", " + other + ")", roads -> roads.stretch(one, other)));
                all.add(new Question("stack(" + one + ", " + other + ")", roads -> roads.stack(one, other)));
                all.add(new Question("halves(" + one + ", " + other + ")", roads -> roads.halves(one, other)));
            }
        }
        all.add(new Question("width()", PhraseRoads::width));
    }
}
