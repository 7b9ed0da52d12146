import java.lang.reflect.Field;
import java.lang.reflect.Method;
import java.lang.reflect.Modifier;
import java.util.Set;
import java.util.TreeSet;

/** The public face is the document's, and nothing else of the class can be seen from outside. */
public final class FaceTest {
    private static final String[] FACE = {
        "feed/1", "moor/0", "person/2", "delay/1", "day/0", "was/2", "sees/2", "behind/2", "meet/3",
        "never/2", "crowd/2", "reach/2", "can/2", "ways/3", "sight/2", "fits/1", "guess/2", "forget/0",
        "game/3", "watchers/2", "row/1", "judge/1", "seeds/4", "image/0", "restore/0", "count/1"};

    public static void main(String[] args) {
        Due due = new Due("FaceTest");
        Class<?> c = SeenADayLate.class;
        due.holds("public final", Modifier.isPublic(c.getModifiers()) && Modifier.isFinal(c.getModifiers()));
        due.is("constructors", c.getDeclaredConstructors().length, 1);
        due.is("public constructors", c.getConstructors().length, 1);
        due.is("its arguments", c.getConstructors()[0].getParameterCount(), 0);
        Set<String> want = new TreeSet<>(Set.of(FACE));
        Set<String> got = new TreeSet<>();
        Set<String> names = new TreeSet<>();
        for (Method m : c.getDeclaredMethods()) {
            if (Modifier.isPublic(m.getModifiers())) {
                got.add(m.getName() + "/" + m.getParameterCount());
                names.add(m.getName());
                due.holds(m.getName() + " answers an int", m.getReturnType() == int.class);
                for (Class<?> p : m.getParameterTypes()) {
                    due.holds(m.getName() + " takes ints", p == int.class);
                }
            }
        }
        due.holds("methods " + got, got.equals(want));
        hidden(due, c, names, true);
        for (Class<?> inner : c.getDeclaredClasses()) {
            due.holds(inner + " is static", Modifier.isStatic(inner.getModifiers()));
            due.holds(inner + " is not public", !Modifier.isPublic(inner.getModifiers()));
            hidden(due, inner, names, false);
        }
        due.holds("some twelve classes", c.getDeclaredClasses().length + 1 <= 12);
        due.end();
    }

    private static void hidden(Due due, Class<?> c, Set<String> names, boolean face) {
        int fields = 0;
        for (Field f : c.getDeclaredFields()) {
            if (face) {
                due.holds(f + " is private", Modifier.isPrivate(f.getModifiers()));
            }
            if (Modifier.isStatic(f.getModifiers())) {
                due.holds(f + " is final", Modifier.isFinal(f.getModifiers()));
            } else {
                fields++;
            }
        }
        due.holds(c + " has some twenty fields", fields <= 20);
        for (Method m : c.getDeclaredMethods()) {
            boolean open = Modifier.isPublic(m.getModifiers());
            due.holds(m + " is of the face or private", !face || open || Modifier.isPrivate(m.getModifiers()));
            due.holds(m + " has a name of its own", face && open || !names.contains(m.getName()));
            due.holds(m + " takes at most seven", m.getParameterCount() <= 7);
        }
    }
}
