import java.lang.reflect.Constructor;
import java.lang.reflect.Field;
import java.lang.reflect.Method;
import java.lang.reflect.Modifier;
import java.util.ArrayList;
import java.util.List;
import java.util.Set;
import java.util.TreeSet;

/** The face of the class is the document's, with nothing beside it (LANGUAGE.md, rule 1). */
public final class FaceTest {
    private static final String[] FACE = {
        "int feed(int,int,int,int,int)",
        "boolean end(int)",
        "int book() IllegalArgumentException",
        "int fluency() IllegalArgumentException",
        "int sentence() IllegalArgumentException",
        "int learn() IllegalArgumentException,UnsupportedOperationException",
        "int fault()",
        "int letter(int,int) IndexOutOfBoundsException",
        "int phrase(int,int) IndexOutOfBoundsException,NoSuchElementException",
        "int part(int,boolean,int) IndexOutOfBoundsException",
        "int after(int,int) IndexOutOfBoundsException",
        "int place(int) IndexOutOfBoundsException",
        "int put(int,int) IndexOutOfBoundsException",
        "int price(int,int) IndexOutOfBoundsException,IllegalArgumentException",
        "boolean drop(int,boolean) IndexOutOfBoundsException,IllegalArgumentException",
        "int tune(int,int) NoSuchElementException,IllegalArgumentException",
        "int option(int,int) IndexOutOfBoundsException",
        "int stretch(int,int) IndexOutOfBoundsException,IllegalArgumentException",
        "int exact()",
        "int many()",
        "int way(int,int) NoSuchElementException,IllegalArgumentException",
        "int step(int,int,int) NoSuchElementException,IllegalArgumentException",
        "int word(int,int) IllegalArgumentException",
        "int found(int) NoSuchElementException",
        "int halves(int,int) NoSuchElementException",
        "int stack(int,int) IndexOutOfBoundsException,NoSuchElementException",
        "int forced() IllegalArgumentException",
        "int near() IllegalArgumentException",
        "int match(int) IllegalArgumentException",
        "int agreed(int) IllegalArgumentException",
        "int needed()",
        "int idle()",
        "int reach()",
        "int width()",
        "int tuned() IllegalArgumentException",
        "void image()",
        "boolean back()",
        "int count(int)",
    };

    public static void main(String[] args) {
        Desk desk = new Desk();
        Set<String> want = new TreeSet<>(List.of(FACE));
        Set<String> got = new TreeSet<>();
        Set<String> names = new TreeSet<>();
        for (Method m : PhraseRoads.class.getDeclaredMethods()) {
            if (!Modifier.isPrivate(m.getModifiers())) {
                got.add(told(m));
                names.add(m.getName());
                desk.due(m.getName() + " is public and no static one", m.getModifiers() == Modifier.PUBLIC, true);
            }
        }
        for (String line : want) {
            desk.due("there is " + line, got.contains(line), true);
        }
        for (String line : got) {
            desk.due("the document has " + line, want.contains(line), true);
        }
        desk.due("the class is public and final", PhraseRoads.class.getModifiers() == (Modifier.PUBLIC | Modifier.FINAL), true);
        for (Constructor<?> c : PhraseRoads.class.getDeclaredConstructors()) {
            desk.due("constructor", c.getModifiers() == Modifier.PUBLIC && c.getParameterCount() == 0, true);
        }
        for (Field f : PhraseRoads.class.getDeclaredFields()) {
            boolean told = f.getName().equals("NONE");
            desk.due("field " + f.getName(), told || Modifier.isPrivate(f.getModifiers()), true);
        }
        desk.due("NONE", PhraseRoads.NONE, -1);
        looksInside(desk, names);
        desk.close("FaceTest");
    }

    private static void looksInside(Desk desk, Set<String> names) {
        List<Class<?>> classes = new ArrayList<>(List.of(PhraseRoads.class.getDeclaredClasses()));
        desk.due("twelve classes at most", classes.size() <= 11, true);
        classes.add(PhraseRoads.class);
        for (Class<?> c : classes) {
            desk.due(c.getName() + " is static", c == PhraseRoads.class || Modifier.isStatic(c.getModifiers()), true);
            int fields = 0;
            for (Field f : c.getDeclaredFields()) {
                boolean constant = Modifier.isStatic(f.getModifiers());
                fields += constant ? 0 : 1;
                desk.due(f + " is final if static", !constant || Modifier.isFinal(f.getModifiers()), true);
            }
            desk.due(c.getName() + " has twenty fields at most", fields <= 20, true);
            for (Method m : c.getDeclaredMethods()) {
                boolean face = c == PhraseRoads.class && Modifier.isPublic(m.getModifiers());
                desk.due(m + " bears a name of the face", !face && names.contains(m.getName()), false);
                desk.due(m + " takes seven parameters at most", m.getParameterCount() <= 7, true);
            }
        }
    }

    private static String told(Method m) {
        StringBuilder b = new StringBuilder(m.getReturnType().getSimpleName()).append(' ').append(m.getName()).append('(');
        b.append(joined(m.getParameterTypes())).append(')');
        String thrown = joined(m.getExceptionTypes());
        return thrown.isEmpty() ? b.toString() : b.append(' ').append(thrown).toString();
    }

    private static String joined(Class<?>[] types) {
        List<String> names = new ArrayList<>();
        for (Class<?> type : types) {
            names.add(type.getSimpleName());
        }
        return String.join(",", names);
    }
}
