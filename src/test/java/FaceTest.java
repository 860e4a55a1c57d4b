import java.lang.reflect.Constructor;
import java.lang.reflect.Field;
import java.lang.reflect.Method;
import java.lang.reflect.Modifier;
import java.util.Arrays;
import java.util.Set;
import java.util.TreeSet;

/** The public face: the constants, the constructor and the methods of the document, and nothing else that is not private. */
public final class FaceTest {
    private static final String[] METHODS = {
        "amount/2", "balance/1", "close/0", "lineAmount/2", "linePeriod/2",
        "lines/1", "read/3", "tariff/2", "unread/2", "usage/2",
    };
    private static final String[] CONSTANTS = {
        "ALL_CLOSED", "BAD_ACCOUNT", "BAD_INTERVAL", "BAD_ITEM", "BAD_PERIOD", "BAD_RATE", "BAD_READ", "NO_READ",
    };

    public static void main(String[] args) {
        constants();
        classShape();
        methods();
        fields();
        Checks.end();
    }

    private static void constants() {
        Checks.due("BAD_ACCOUNT", UtilityRebiller.BAD_ACCOUNT, -1);
        Checks.due("BAD_INTERVAL", UtilityRebiller.BAD_INTERVAL, -2);
        Checks.due("BAD_READ", UtilityRebiller.BAD_READ, -3);
        Checks.due("BAD_ITEM", UtilityRebiller.BAD_ITEM, -4);
        Checks.due("BAD_RATE", UtilityRebiller.BAD_RATE, -5);
        Checks.due("ALL_CLOSED", UtilityRebiller.ALL_CLOSED, -6);
        Checks.due("NO_READ", UtilityRebiller.NO_READ, -7);
        Checks.due("BAD_PERIOD", UtilityRebiller.BAD_PERIOD, -8);
    }

    private static void classShape() {
        Class<?> c = UtilityRebiller.class;
        holds("the class is public and final", c.getModifiers() == (Modifier.PUBLIC | Modifier.FINAL));
        holds("the class has no nested class", c.getDeclaredClasses().length == 0);
        holds("the class implements nothing", c.getSuperclass() == Object.class && c.getInterfaces().length == 0);
        Constructor<?>[] made = c.getDeclaredConstructors();
        holds("one public constructor without parameters", made.length == 1
                && made[0].getModifiers() == Modifier.PUBLIC && made[0].getParameterCount() == 0);
    }

    private static void methods() {
        Set<String> open = new TreeSet<>();
        Set<String> openNames = new TreeSet<>();
        for (Method m : UtilityRebiller.class.getDeclaredMethods()) {
            if (Modifier.isPrivate(m.getModifiers())) {
                continue;
            }
            holds(m + " is public and of the object", m.getModifiers() == Modifier.PUBLIC);
            holds(m + " answers an int", m.getReturnType() == int.class);
            holds(m + " takes ints", Arrays.stream(m.getParameterTypes()).allMatch(t -> t == int.class));
            holds(m + " is the only one of its name", openNames.add(m.getName()));
            open.add(m.getName() + "/" + m.getParameterCount());
        }
        holds("the methods are " + open, open.equals(new TreeSet<>(Arrays.asList(METHODS))));
        for (Method m : UtilityRebiller.class.getDeclaredMethods()) {
            holds(m + " does not bear a public method's name",
                    !Modifier.isPrivate(m.getModifiers()) || !openNames.contains(m.getName()));
        }
    }

    private static void fields() {
        Set<String> open = new TreeSet<>();
        for (Field f : UtilityRebiller.class.getDeclaredFields()) {
            int how = f.getModifiers();
            if (Modifier.isStatic(how)) {
                holds(f + " is a constant", Modifier.isFinal(how) && (f.getType() == int.class || f.getType() == long.class));
            }
            if (!Modifier.isPrivate(how)) {
                holds(f + " is public, static and final", how == (Modifier.PUBLIC | Modifier.STATIC | Modifier.FINAL));
                holds(f + " is an int", f.getType() == int.class);
                open.add(f.getName());
            }
        }
        holds("the constants are " + open, open.equals(new TreeSet<>(Arrays.asList(CONSTANTS))));
    }

    private static void holds(String what, boolean so) {
        Checks.due(what, so ? 1 : 0, 1);
    }
}
