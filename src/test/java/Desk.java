import java.util.function.IntSupplier;

/** What the tests share: texts put on the TAPE, answers compared, exceptions expected. */
final class Desk {
    private int wrong;
    private int looks;
    private String label = "";

    static void tape(PhraseRoads roads, String text) {
        roads.end(0);
        for (int from = 0; from < text.length(); from += 20) {
            roads.feed(four(text, from), four(text, from + 4), four(text, from + 8), four(text, from + 12), four(text, from + 16));
        }
        roads.end(text.length());
    }

    static int four(String text, int from) {
        int n = 0;
        for (int i = from; i < from + 4; i++) {
            n = n << 8 | (i < text.length() ? text.charAt(i) & 255 : 0);
        }
        return n;
    }

    static int book(PhraseRoads roads, String text) {
        tape(roads, text);
        return roads.book();
    }

    static int fluency(PhraseRoads roads, String text) {
        tape(roads, text);
        return roads.fluency();
    }

    static int sentence(PhraseRoads roads, String text) {
        tape(roads, text);
        return roads.sentence();
    }

    static int learn(PhraseRoads roads, String text) {
        tape(roads, text);
        return roads.learn();
    }

    /** Reads a text as one of the eight that read the TAPE; "match 2" is match(2). */
    static int read(PhraseRoads roads, String kind, String text) {
        tape(roads, text);
        switch (kind) {
            case "book": return roads.book();
            case "fluency": return roads.fluency();
            case "sentence": return roads.sentence();
            case "learn": return roads.learn();
            case "forced": return roads.forced();
            case "near": return roads.near();
            case "tuned": return roads.tuned();
            default: return roads.match(Integer.parseInt(kind.substring(kind.indexOf(' ') + 1)));
        }
    }

    /** What stands ahead of each line that is printed from now on. */
    void under(String newLabel) {
        label = newLabel;
    }

    int looks() {
        return looks;
    }

    void due(String call, long got, long want) {
        looks++;
        if (got != want) {
            wrong(call + " answered " + got + ", due is " + want);
        }
    }

    void wrong(String line) {
        wrong++;
        System.out.println(label + line);
    }

    void due(String call, boolean got, boolean want) {
        due(call, got ? 1 : 0, want ? 1 : 0);
    }

    /** Just this class of exception, not one below it: the machine's own are below those that are due. */
    void refused(String call, Class<? extends RuntimeException> want, IntSupplier what) {
        looks++;
        String got;
        try {
            got = String.valueOf(what.getAsInt());
        } catch (RuntimeException e) {
            if (e.getClass() == want) {
                return;
            }
            got = e.getClass().getName();
        }
        wrong(call + " answered " + got + ", due is " + want.getName());
    }

    void index(String call, IntSupplier what) {
        refused(call, IndexOutOfBoundsException.class, what);
    }

    void argument(String call, IntSupplier what) {
        refused(call, IllegalArgumentException.class, what);
    }

    void element(String call, IntSupplier what) {
        refused(call, java.util.NoSuchElementException.class, what);
    }

    /** A right text and what the call answers. */
    void right(PhraseRoads roads, String kind, String text, int want) {
        String call = kind + " of \"" + text + "\"";
        int got;
        try {
            got = read(roads, kind, text);
        } catch (RuntimeException e) {
            looks++;
            wrong(call + " answered " + e.getClass().getName() + " with fault() " + roads.fault() + ", due is " + want);
            return;
        }
        due(call, got, want);
        due(call + ": fault()", roads.fault(), PhraseRoads.NONE);
        due(call + ": the tape is used up", roads.end(1), false);
    }

    /** A wrong text and its first wrong byte. */
    void faulty(PhraseRoads roads, String kind, String text, int fault) {
        String call = kind + " of \"" + text + "\"";
        argument(call, () -> read(roads, kind, text));
        due(call + ": fault()", roads.fault(), fault);
        due(call + ": the tape is used up", roads.end(1), false);
    }

    void close(String name) {
        System.out.println(name + ": " + looks + " looks, " + wrong + " wrong");
        if (wrong != 0) {
            System.exit(1);
        }
    }
}
