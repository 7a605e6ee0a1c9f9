import java.lang.reflect.Constructor;
import java.lang.reflect.Field;
import java.lang.reflect.Method;
import java.lang.reflect.Modifier;
import java.util.Arrays;
import java.util.Set;
import java.util.TreeSet;

/** The public face is the document's and no more; what is static is a constant (LANGUAGE.md 1, 5). */
public final class FaceTest {
    private static final Set<String> FACE = Set.of(
        "int item[int, int, int]", "int drop[int]", "int items[int]", "int push[int]",
        "void reset[]", "int taken[]", "int endingAt[int]", "int ends[int]", "int firstEnd[int]",
        "int earliest[int, int]", "int latest[int, int]", "int longest[int]",
        "int completing[int]", "int emptyFits[]");

    private static final Checks checks = new Checks();

    public static void main(String[] args) {
        checks.due("NONE", StreamWatcher.NONE, -1);
        checks.due("FULL", StreamWatcher.FULL, -2);
        checks.due("modifiers", StreamWatcher.class.getModifiers(), Modifier.PUBLIC | Modifier.FINAL);
        checks.due("nested classes", StreamWatcher.class.getDeclaredClasses().length, 0);
        methods();
        fields();
        constructors();
        checks.end();
    }

    private static void methods() {
        Set<String> open = new TreeSet<>();
        Set<String> openNames = new TreeSet<>();
        Set<String> hiddenNames = new TreeSet<>();
        for (Method m : StreamWatcher.class.getDeclaredMethods()) {
            if (Modifier.isPrivate(m.getModifiers())) {
                hiddenNames.add(m.getName());
            } else {
                open.add(m.getReturnType() + " " + m.getName() + Arrays.toString(m.getParameterTypes()));
                openNames.add(m.getName());
                checks.due("modifiers of " + m.getName(), m.getModifiers(), Modifier.PUBLIC);
            }
            checks.holds(m.getName() + " takes at most seven parameters", m.getParameterCount() <= 7);
        }
        checks.holds("the face is the document's: " + open, open.equals(FACE));
        hiddenNames.retainAll(openNames);
        checks.holds("no private method is named as a public one: " + hiddenNames, hiddenNames.isEmpty());
    }

    private static void fields() {
        for (Field f : StreamWatcher.class.getDeclaredFields()) {
            boolean open = f.getName().equals("NONE") || f.getName().equals("FULL");
            int modifiers = f.getModifiers();
            checks.holds(f.getName() + " is open or private",
                open ? Modifier.isPublic(modifiers) && f.getType() == int.class : Modifier.isPrivate(modifiers));
            if (Modifier.isStatic(modifiers)) {
                checks.holds(f.getName() + " is a constant of int or long",
                    Modifier.isFinal(modifiers) && (f.getType() == int.class || f.getType() == long.class));
            }
        }
    }

    private static void constructors() {
        Constructor<?>[] all = StreamWatcher.class.getDeclaredConstructors();
        checks.due("constructors", all.length, 1);
        checks.due("parameters of the constructor", all[0].getParameterCount(), 0);
        checks.holds("the constructor is public", Modifier.isPublic(all[0].getModifiers()));
    }
}
