import java.lang.reflect.Constructor;
import java.lang.reflect.Field;
import java.lang.reflect.Method;
import java.lang.reflect.Modifier;
import java.util.Arrays;
import java.util.List;
import java.util.Set;
import java.util.TreeSet;

/** The public face of the document and what LANGUAGE.md says of members: no other one than a private one. */
public final class FaceTest {
    private static final Due due = new Due();
    private static final Set<Class<?>> NUMBERS =
        Set.of(int.class, long.class, short.class, byte.class, char.class, boolean.class);

    private static final List<String> FACE = List.of(
        "public RoundArchive(int,int,int)",
        "public boolean RoundArchive.shape(int,int)",
        "public boolean RoundArchive.update(int,int)",
        "public int RoundArchive.lastTime()",
        "public int RoundArchive.moment(int)",
        "public int RoundArchive.steps()",
        "public int RoundArchive.lastStep()",
        "public int RoundArchive.rows(int)",
        "public int RoundArchive.row(int,int)",
        "public int RoundArchive.peak(int)",
        "public int RoundArchive.known(int)",
        "public int RoundArchive.pending()",
        "public int RoundArchive.pendingSum()",
        "public static final int RoundArchive.UNKNOWN",
        "public static final int RoundArchive.NONE",
        "public static final int RoundArchive.MEAN",
        "public static final int RoundArchive.LOW",
        "public static final int RoundArchive.HIGH",
        "public static final int RoundArchive.LAST");

    public static void main(String[] args) {
        Class<RoundArchive> type = RoundArchive.class;
        due.is("modifiers", Modifier.toString(type.getModifiers()), "public final");
        due.is("superclass", type.getSuperclass(), Object.class);
        due.is("interfaces", type.getInterfaces().length, 0);
        due.is("nested classes", type.getDeclaredClasses().length, 0);
        due.is("members that are not private", notPrivate(type), new TreeSet<>(FACE));
        privateNames(type);
        types(type);
        due.end();
    }

    private static Set<String> notPrivate(Class<?> type) {
        Set<String> found = new TreeSet<>();
        for (Constructor<?> c : type.getDeclaredConstructors()) {
            if (!Modifier.isPrivate(c.getModifiers())) {
                found.add(c.toString());
            }
        }
        for (Method m : type.getDeclaredMethods()) {
            if (!Modifier.isPrivate(m.getModifiers())) {
                found.add(m.toString());
            }
        }
        for (Field f : type.getDeclaredFields()) {
            if (!Modifier.isPrivate(f.getModifiers())) {
                found.add(f.toString());
            }
        }
        return found;
    }

    private static void privateNames(Class<?> type) {
        Set<String> open = new TreeSet<>();
        for (Method m : type.getMethods()) {
            open.add(m.getName());
        }
        for (Method m : type.getDeclaredMethods()) {
            if (Modifier.isPrivate(m.getModifiers())) {
                due.is("private " + m.getName() + " has a public method's name", open.contains(m.getName()), false);
            }
            due.is(m.getName() + " has more than seven parameters", m.getParameterCount() > 7, false);
        }
    }

    private static void types(Class<?> type) {
        int held = 0;
        for (Field f : type.getDeclaredFields()) {
            Class<?> one = f.getType().isArray() ? f.getType().getComponentType() : f.getType();
            due.is(f + " is of a type that is allowed", NUMBERS.contains(one), true);
            if (Modifier.isStatic(f.getModifiers())) {
                boolean constant = Modifier.isFinal(f.getModifiers()) && (f.getType() == int.class || f.getType() == long.class);
                due.is(f + " is a constant", constant, true);
            } else {
                held++;
            }
        }
        due.is("more than forty fields", held > 40, false);
        for (Method m : type.getDeclaredMethods()) {
            due.is(m + " answers an array", m.getReturnType().isArray(), false);
            due.is(m + " answers a number or nothing", m.getReturnType() == void.class || NUMBERS.contains(m.getReturnType()), true);
            boolean allowed = Arrays.stream(m.getParameterTypes())
                .allMatch(p -> NUMBERS.contains(p.isArray() ? p.getComponentType() : p));
            due.is(m + " takes what is allowed", allowed, true);
        }
    }
}
