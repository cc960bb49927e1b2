import java.lang.reflect.InvocationTargetException;
import java.lang.reflect.Method;
import java.lang.reflect.Modifier;
import java.util.Arrays;
import java.util.HashMap;
import java.util.Map;

/** A PhraseRoads and a PlainRoads that get the same calls, and whose answers are compared. */
final class Twins {
    private static final Map<String, Method> REAL = new HashMap<>();
    private static final Map<String, Method> PLAIN = new HashMap<>();
    static int compared;
    static int skipped;

    static {
        for (Method m : PhraseRoads.class.getDeclaredMethods()) {
            if (Modifier.isPublic(m.getModifiers())) {
                REAL.put(m.getName(), m);
                for (Method other : PlainRoads.class.getDeclaredMethods()) {
                    if (other.getName().equals(m.getName()) && Arrays.equals(other.getParameterTypes(), m.getParameterTypes())) {
                        PLAIN.put(m.getName(), other);
                    }
                }
            }
        }
    }

    final PhraseRoads roads = new PhraseRoads();
    final PlainRoads model;
    final StringBuilder log = new StringBuilder();
    boolean wrong;

    Twins(int mostWays) {
        model = new PlainRoads(mostWays);
    }

    static Class<?>[] types(String name) {
        return REAL.get(name).getParameterTypes();
    }

    /** Puts a text on the tape and has it read; how many calls that took. */
    int read(String reader, String text, Object... values) throws Exception {
        log.append("  \"").append(text).append("\"\n");
        int calls = 3;
        for (int from = 0; from < text.length(); from += 20) {
            Object[] five = new Object[5];
            for (int i = 0; i < 5; i++) {
                five[i] = Desk.four(text, from + 4 * i);
            }
            ask("feed", five);
            calls++;
        }
        ask("end", text.length());
        ask(reader, values);
        ask("fault");
        return calls;
    }

    String ask(String name, Object... values) throws Exception {
        String want = outcome(PLAIN.get(name), model, values);
        String got = outcome(REAL.get(name), roads, values);
        log.append("  ").append(name).append(Arrays.toString(values)).append(" -> ").append(got).append('\n');
        if (want.equals("TooMuch")) {
            skipped++;
            return got;
        }
        compared++;
        if (!got.equals(want)) {
            wrong = true;
            log.append("  due is ").append(want).append('\n');
        }
        return got;
    }

    private static String outcome(Method m, Object on, Object[] values) throws Exception {
        try {
            return String.valueOf(m.invoke(on, values));
        } catch (InvocationTargetException e) {
            return e.getCause().getClass().getSimpleName();
        }
    }

    /** Ends the test's program: with 1 if a run was wrong, or nothing was compared. */
    static void close(String name, boolean wrong) {
        System.out.println(name + ": " + compared + " answers compared, " + skipped + " left out");
        if (wrong || compared == 0) {
            System.exit(1);
        }
    }
}
