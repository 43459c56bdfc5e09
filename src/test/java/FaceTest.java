import java.lang.reflect.Constructor;
import java.lang.reflect.Field;
import java.lang.reflect.Method;
import java.lang.reflect.Modifier;
import java.util.Arrays;
import java.util.Set;
import java.util.TreeSet;

/** The class has the document's face and no other member that can be seen from outside. */
public final class FaceTest {
    private static final Set<String> FACE = Set.of(
            "premise 2", "clear 0", "rule 2", "remove 1", "strengthen 2", "observe 2", "rules 0", "headOf 1",
            "observed 1", "certainty 1", "whatIf 3", "without 2", "supporter 1", "yield 1", "atLeast 1",
            "strongest 2", "essential 0", "influence 1");

    private static int wrong = 0;

    public static void main(String[] args) {
        Class<CertaintyChainer> type = CertaintyChainer.class;
        check(Modifier.isPublic(type.getModifiers()) && Modifier.isFinal(type.getModifiers()), "public and final");
        check(type.getDeclaredClasses().length == 0, "no nested class");
        checkConstructor(type);
        checkMethods(type);
        checkFields(type);
        System.out.println(wrong == 0 ? "the face is the document's" : wrong + " faults of the face");
        if (wrong != 0) {
            System.exit(1);
        }
    }

    private static void check(boolean holds, String what) {
        if (!holds) {
            wrong++;
            System.out.println("does not hold: " + what);
        }
    }

    private static void checkConstructor(Class<?> type) {
        Constructor<?>[] all = type.getDeclaredConstructors();
        check(all.length == 1 && all[0].getParameterCount() == 0 && Modifier.isPublic(all[0].getModifiers()),
                "one public constructor without parameters");
    }

    private static void checkMethods(Class<?> type) {
        Set<String> open = new TreeSet<>();
        Set<String> openNames = new TreeSet<>();
        for (Method m : type.getDeclaredMethods()) {
            if (!Modifier.isPrivate(m.getModifiers())) {
                open.add(m.getName() + " " + m.getParameterCount());
                openNames.add(m.getName());
                check(Modifier.isPublic(m.getModifiers()) && !Modifier.isStatic(m.getModifiers()),
                        m.getName() + " is public and not static");
                check(m.getReturnType() == int.class
                        && Arrays.stream(m.getParameterTypes()).allMatch(p -> p == int.class),
                        m.getName() + " is over int alone");
            }
        }
        check(open.equals(FACE), "the methods are the document's: " + open);
        for (Method m : type.getDeclaredMethods()) {
            check(!Modifier.isPrivate(m.getModifiers()) || !openNames.contains(m.getName()),
                    "the private method " + m.getName() + " has a name of its own");
        }
    }

    private static void checkFields(Class<?> type) {
        for (Field f : type.getDeclaredFields()) {
            check(Modifier.isPrivate(f.getModifiers()), "the field " + f.getName() + " is private");
            check(!Modifier.isStatic(f.getModifiers()) || f.getType() == int.class,
                    "the static field " + f.getName() + " is an int");
        }
    }
}
