import java.lang.reflect.Constructor;
import java.lang.reflect.Field;
import java.lang.reflect.Method;
import java.lang.reflect.Modifier;
import java.util.Set;
import java.util.TreeSet;

/** The class shows the document's face and nothing else. */
public final class FaceTest {
    private static final String[] METHODS = {
        "start/5", "input/2", "crash/3", "spare/1", "step/0", "run/0", "again/0", "decided/1",
        "decidedIn/1", "knows/1", "vector/2", "heard/1", "count/1", "breach/0", "search/1",
        "found/2", "replay/0"
    };
    private static int wrong = 0;

    private static void check(boolean holds, String what) {
        if (!holds) {
            wrong++;
            System.out.println("not so: " + what);
        }
    }

    public static void main(String[] args) {
        Class<CrashRounds> face = CrashRounds.class;
        check(Modifier.isPublic(face.getModifiers()), "the class is public");
        check(Modifier.isFinal(face.getModifiers()), "the class is final");
        checkMethods(face);
        checkFields(face);
        Constructor<?>[] constructors = face.getDeclaredConstructors();
        check(constructors.length == 1 && constructors[0].getParameterCount() == 0
                && Modifier.isPublic(constructors[0].getModifiers()), "one public constructor");
        for (Class<?> inside : face.getDeclaredClasses()) {
            int modifiers = inside.getModifiers();
            check(Modifier.isStatic(modifiers) && !Modifier.isPublic(modifiers)
                    && !Modifier.isProtected(modifiers), inside + " is static and hidden");
        }
        System.out.println(wrong == 0 ? "the face is as due" : wrong + " things are not as due");
        if (wrong != 0) {
            System.exit(1);
        }
    }

    private static void checkMethods(Class<?> face) {
        Set<String> seen = new TreeSet<>();
        for (Method method : face.getDeclaredMethods()) {
            int modifiers = method.getModifiers();
            if (Modifier.isPrivate(modifiers)) {
                continue;
            }
            seen.add(method.getName() + "/" + method.getParameterCount());
            check(Modifier.isPublic(modifiers) && !Modifier.isStatic(modifiers)
                    && method.getReturnType() == int.class, method + " is public and answers int");
            for (Class<?> parameter : method.getParameterTypes()) {
                check(parameter == int.class, method + " takes int alone");
            }
        }
        check(seen.equals(new TreeSet<>(Set.of(METHODS))), "the methods are the document's: " + seen);
    }

    private static void checkFields(Class<?> face) {
        Set<String> seen = new TreeSet<>();
        for (Field field : face.getDeclaredFields()) {
            int modifiers = field.getModifiers();
            if (!Modifier.isPrivate(modifiers)) {
                seen.add(field.getName());
                check(field.getType() == int.class && Modifier.isPublic(modifiers)
                        && Modifier.isStatic(modifiers) && Modifier.isFinal(modifiers),
                        field + " is a public constant");
            }
        }
        check(seen.equals(Set.of("BAD", "NONE", "BIG")), "the constants are the document's: " + seen);
        check(CrashRounds.BAD == -1 && CrashRounds.NONE == -2 && CrashRounds.BIG == -3,
                "the constants have the document's values");
    }
}
