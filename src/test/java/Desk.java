import java.util.function.IntSupplier;

/** What the tests share: texts put on the TAPE, answers compared, exceptions expected. */
final class Desk {
    private int wrong;
    private int looks;

    static void tape(PhraseRoads roads, String text) {
        roads.end(0);
        for (int from = 0; from < text.length(); from += 20) {
            roads.feed(four(text, from), four(text, from + 4), four(text, from + 8), four(text, from + 12), four(text, from + 16));
        }
        roads.end(text.length());
    }

    static int four(String text, int from) {
        int n = 0;
        for (int i = from; i < from + 4; i++) {
            n = n << 8 | (i < text.length() ? text.charAt(i) & 255 : 0);
        }
        return n;
    }

    static int book(PhraseRoads roads, String text) {
        tape(roads, text);
        return roads.book();
    }

    static int fluency(PhraseRoads roads, String text) {
        tape(roads, text);
        return roads.fluency();
    }

    static int sentence(PhraseRoads roads, String text) {
        tape(roads, text);
        return roads.sentence();
    }

    static int learn(PhraseRoads roads, String text) {
        tape(roads, text);
        return roads.learn();
    }

    void due(String call, long got, long want) {
        looks++;
        if (got != want) {
            wrong++;
            System.out.println(call + " answered " + got + ", due is " + want);
        }
    }

    void due(String call, boolean got, boolean want) {
        due(call, got ? 1 : 0, want ? 1 : 0);
    }

    /** Just this class of exception, not one below it: the machine's own are below those that are due. */
    void refused(String call, Class<? extends RuntimeException> want, IntSupplier what) {
        looks++;
        String got;
        try {
            got = String.valueOf(what.getAsInt());
        } catch (RuntimeException e) {
            if (e.getClass() == want) {
                return;
            }
            got = e.getClass().getName();
        }
        wrong++;
        System.out.println(call + " answered " + got + ", due is " + want.getName());
    }

    void index(String call, IntSupplier what) {
        refused(call, IndexOutOfBoundsException.class, what);
    }

    void argument(String call, IntSupplier what) {
        refused(call, IllegalArgumentException.class, what);
    }

    void element(String call, IntSupplier what) {
        refused(call, java.util.NoSuchElementException.class, what);
    }

    void close(String name) {
        System.out.println(name + ": " + looks + " looks, " + wrong + " wrong");
        if (wrong != 0) {
            System.exit(1);
        }
    }
}
