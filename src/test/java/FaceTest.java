import java.lang.reflect.Constructor;
import java.lang.reflect.Field;
import java.lang.reflect.Method;
import java.lang.reflect.Modifier;
import java.util.HashSet;
import java.util.Set;
import java.util.TreeSet;

/** The public face is the document's and no more, and the rules that show in members are kept. */
public final class FaceTest {
    private static final String[] METHODS = {
        "setNumber/2", "setLink/2", "begin/2", "append/2", "push/3", "put/2", "pop/1", "remove/1",
        "sweep/0", "kind/1", "size/1", "value/2", "valueKind/2", "key/2", "resolve/1", "links/1",
        "save/1", "open/1", "revisions/0", "breakOff/2", "changed/0", "digest/0"};
    private static final int MOST_FIELDS = 40;
    private static final int MOST_PARAMETERS = 7;
    private static final Checks CHECKS = new Checks();

    public static void main(String[] args) throws IllegalAccessException {
        CHECKS.part("public face");
        CHECKS.holds("the class is public and final",
            ObjectFile.class.getModifiers() == (Modifier.PUBLIC | Modifier.FINAL));
        CHECKS.due("nested classes", ObjectFile.class.getDeclaredClasses().length, 0);
        CHECKS.due("interfaces", ObjectFile.class.getInterfaces().length, 0);
        constructors();
        methods();
        fields();
        CHECKS.end();
    }

    private static void constructors() {
        Constructor<?>[] all = ObjectFile.class.getDeclaredConstructors();
        CHECKS.due("constructors", all.length, 1);
        CHECKS.holds("the constructor is public", Modifier.isPublic(all[0].getModifiers()));
        CHECKS.due("the constructor's parameters", all[0].getParameterCount(), 0);
    }

    private static void methods() {
        Set<String> open = new TreeSet<>();
        Set<String> openNames = new HashSet<>();
        for (Method m : ObjectFile.class.getDeclaredMethods()) {
            if (!Modifier.isPrivate(m.getModifiers())) {
                open.add(m.getName() + "/" + m.getParameterCount());
                openNames.add(m.getName());
                CHECKS.due(m + " has just 'public'", m.getModifiers(), Modifier.PUBLIC);
                CHECKS.holds(m + " answers an int", m.getReturnType() == int.class);
                for (Class<?> p : m.getParameterTypes()) {
                    CHECKS.holds(m + " takes ints", p == int.class);
                }
            }
        }
        CHECKS.holds("the public methods are the document's: " + open, open.equals(Set.of(METHODS)));
        for (Method m : ObjectFile.class.getDeclaredMethods()) {
            CHECKS.holds(m + " takes few enough", m.getParameterCount() <= MOST_PARAMETERS);
            CHECKS.holds(m + " answers no array", !m.getReturnType().isArray());
            CHECKS.holds(m + " shares no public name",
                !Modifier.isPrivate(m.getModifiers()) || !openNames.contains(m.getName()));
        }
    }

    private static void fields() throws IllegalAccessException {
        Set<String> open = new TreeSet<>();
        int held = 0;
        for (Field f : ObjectFile.class.getDeclaredFields()) {
            int is = f.getModifiers();
            if (!Modifier.isPrivate(is)) {
                CHECKS.due(f + " has just 'public static final'", is,
                    Modifier.PUBLIC | Modifier.STATIC | Modifier.FINAL);
                CHECKS.holds(f + " is an int", f.getType() == int.class);
                open.add(f.getName() + "=" + f.get(null));
            }
            if (Modifier.isStatic(is)) {
                CHECKS.holds(f + " is a constant", Modifier.isFinal(is)
                    && (f.getType() == int.class || f.getType() == long.class));
            } else {
                held++;
            }
        }
        CHECKS.holds("the constants are the document's: " + open,
            open.equals(Set.of("BAD=-1", "NONE=-2", "FULL=-3")));
        CHECKS.holds("there are few enough fields", held <= MOST_FIELDS);
    }
}
