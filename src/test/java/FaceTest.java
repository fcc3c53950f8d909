import java.lang.reflect.Constructor;
import java.lang.reflect.Field;
import java.lang.reflect.Method;
import java.lang.reflect.Modifier;
import java.util.ArrayList;
import java.util.HashSet;
import java.util.List;
import java.util.Set;

/** The class shows the document's face and nothing else (LANGUAGE.md, rules 1 and 2). */
public final class FaceTest {
    private static final String BOUNDS = "IndexOutOfBoundsException";
    private static final String ARGUMENT = "IllegalArgumentException";
    private static final String STATE = "IllegalStateException";

    private static final Set<String> NAMES = new HashSet<>();

    private FaceTest() {
    }

    public static void main(String[] args) {
        Class<?> face = PodGuideway.class;
        Check.due("public and final", Modifier.isPublic(face.getModifiers())
                && Modifier.isFinal(face.getModifiers()));
        Check.due("package", face.getPackageName(), "");
        Check.due("above it", face.getSuperclass().getName(), "java.lang.Object");
        Check.due("interfaces", face.getInterfaces().length, 0);
        checkConstructors(face);
        checkMethods(face);
        checkNothingElse(face);
        Check.finish();
    }

    private static void checkConstructors(Class<?> face) {
        Constructor<?>[] made = face.getDeclaredConstructors();
        Check.due("constructors", made.length, 1);
        Check.due("constructor is public", Modifier.isPublic(made[0].getModifiers()));
        Check.due("constructor's parameters", made[0].getParameterCount(), 0);
        Check.due("constructor's exceptions", made[0].getExceptionTypes().length, 0);
    }

    private static void checkMethods(Class<?> face) {
        method(face, "build", "int", 1, BOUNDS, STATE);
        method(face, "pod", "int", 1, BOUNDS, STATE);
        method(face, "ride", "int", 2, BOUNDS, ARGUMENT, STATE);
        method(face, "send", "int", 2, BOUNDS, STATE);
        method(face, "told", "int", 2, BOUNDS);
        method(face, "station", "int", 2, BOUNDS);
        method(face, "waits", "int", 2, BOUNDS);
        method(face, "slot", "int", 1, BOUNDS);
        method(face, "count", "int", 1, BOUNDS);
        method(face, "pass", "int", 1, ARGUMENT);
        method(face, "when", "int", 1, BOUNDS);
        method(face, "takes", "int", 2, BOUNDS, ARGUMENT);
        method(face, "answers", "int", 1, BOUNDS);
        method(face, "foresee", "int", 2, ARGUMENT, BOUNDS);
        method(face, "mean", "double", 0);
        method(face, "digest", "long", 0);
    }

    private static void method(Class<?> face, String name, String answer, int parameters,
            String... exceptions) {
        NAMES.add(name);
        Class<?>[] types = new Class<?>[parameters];
        java.util.Arrays.fill(types, int.class);
        try {
            Method found = face.getDeclaredMethod(name, types);
            Check.due(name + " is public", Modifier.isPublic(found.getModifiers())
                    && !Modifier.isStatic(found.getModifiers()));
            Check.due(name + " answers", found.getReturnType().getName(), answer);
            List<String> declared = new ArrayList<>();
            for (Class<?> type : found.getExceptionTypes()) {
                declared.add(type.getSimpleName());
            }
            Check.due(name + " throws", declared.toString(), List.of(exceptions).toString());
        } catch (NoSuchMethodException e) {
            Check.due(name + " is there", false);
        }
    }

    private static void checkNothingElse(Class<?> face) {
        int shown = 0;
        for (Method found : face.getDeclaredMethods()) {
            if (Modifier.isPrivate(found.getModifiers())) {
                Check.due("private " + found.getName(), !NAMES.contains(found.getName()));
            } else {
                shown++;
            }
        }
        Check.due("methods that are not private", shown, NAMES.size());
        for (Field found : face.getDeclaredFields()) {
            int kind = found.getModifiers();
            Check.due("private field " + found.getName(), Modifier.isPrivate(kind));
            Check.due("static field " + found.getName() + " is final",
                    !Modifier.isStatic(kind) || Modifier.isFinal(kind));
        }
        for (Class<?> inside : face.getDeclaredClasses()) {
            int kind = inside.getModifiers();
            Check.due("class inside " + inside.getName(), Modifier.isStatic(kind)
                    && !Modifier.isPublic(kind) && !Modifier.isProtected(kind));
            for (Method found : inside.getDeclaredMethods()) {
                Check.due("inside " + found.getName(), !NAMES.contains(found.getName()));
            }
        }
    }
}
