import java.lang.reflect.Constructor;
import java.lang.reflect.Field;
import java.lang.reflect.Method;
import java.lang.reflect.Modifier;
import java.util.ArrayList;
import java.util.Arrays;
import java.util.List;
import java.util.TreeSet;

/** The face is the document's, and nothing else of the class can be seen (LANGUAGE.md, rule 1). */
final class FaceTest {
    private static final String I = "IndexOutOfBoundsException";
    private static final String A = "IllegalArgumentException";
    private static final String S = "IllegalStateException";

    private static final String[] METHODS = {
        "type(3) " + I + " " + A + " " + S, "delete(2) " + I, "merge(1) " + I, "copy(1) " + I,
        "copyAt(2) " + I, "changes(1) " + I,
        "length(0)", "wordAt(1) " + I, "word(1) " + I, "placeOf(1) " + I, "share(1) " + I, "shareAnew(1) " + I,
        "setRate(2) " + I + " " + A, "order(3) " + I + " " + A + " " + S, "finish(2) " + I + " " + A + " " + S,
        "cancel(1) " + I + " " + S, "stateOf(1) " + I, "frozenBy(1) " + I, "earned(1) " + I,
        "addIssue(2) " + A + " " + S, "waiting(1) " + A, "pass(1) " + A + " " + S, "today(0)",
        "printed(1) " + I, "royalties(1) " + I,
        "comment(2) " + I + " " + A + " " + S, "span(1) " + I, "keep(0) " + S, "compare(2) " + I,
    };

    private FaceTest() {
    }

    static void run() {
        int modifiers = DraftCommon.class.getModifiers();
        Check.that("the class is public and final", Modifier.isPublic(modifiers) && Modifier.isFinal(modifiers));
        constants();
        constructors();
        methods();
        inside();
    }

    private static void constants() {
        Check.due("NONE", DraftCommon.NONE, -1);
        Check.due("ORDERED", DraftCommon.ORDERED, 0);
        Check.due("DONE", DraftCommon.DONE, 1);
        Check.due("CANCELLED", DraftCommon.CANCELLED, 2);
        Check.due("PRINTED", DraftCommon.PRINTED, 3);
        TreeSet<String> seen = new TreeSet<>();
        for (Field field : DraftCommon.class.getDeclaredFields()) {
            if (!Modifier.isPrivate(field.getModifiers())) {
                seen.add(field.getName());
                Check.that(field + " is a public constant", field.getType() == int.class
                        && field.getModifiers() == (Modifier.PUBLIC | Modifier.STATIC | Modifier.FINAL));
            }
        }
        TreeSet<String> want = new TreeSet<>(List.of("NONE", "ORDERED", "DONE", "CANCELLED", "PRINTED"));
        Check.that("the fields that can be seen are " + seen, seen.equals(want));
    }

    private static void constructors() {
        Constructor<?>[] all = DraftCommon.class.getDeclaredConstructors();
        Check.due("the number of constructors", all.length, 1);
        for (Constructor<?> constructor : all) {
            Check.that("the constructor is public and takes nothing",
                    Modifier.isPublic(constructor.getModifiers()) && constructor.getParameterCount() == 0);
        }
    }

    private static void methods() {
        TreeSet<String> seen = new TreeSet<>();
        TreeSet<String> names = new TreeSet<>();
        List<Method> hidden = new ArrayList<>();
        for (Method method : DraftCommon.class.getDeclaredMethods()) {
            if (Modifier.isPrivate(method.getModifiers())) {
                hidden.add(method);
                continue;
            }
            names.add(method.getName());
            seen.add(told(method));
            Check.that(method + " is public, answers an int and takes ints", isPlain(method));
        }
        TreeSet<String> want = new TreeSet<>(Arrays.asList(METHODS));
        Check.that("the methods that can be seen are " + seen + ", due are " + want, seen.equals(want));
        for (Method method : hidden) {
            Check.that("a private method bears the name of a public one: " + method, !names.contains(method.getName()));
        }
    }

    private static boolean isPlain(Method method) {
        boolean plain = method.getModifiers() == Modifier.PUBLIC && method.getReturnType() == int.class;
        for (Class<?> type : method.getParameterTypes()) {
            plain &= type == int.class;
        }
        return plain;
    }

    private static String told(Method method) {
        StringBuilder text = new StringBuilder(method.getName() + "(" + method.getParameterCount() + ")");
        for (Class<?> kind : method.getExceptionTypes()) {
            text.append(' ').append(kind.getSimpleName());
        }
        return text.toString();
    }

    private static void inside() {
        Class<?>[] classes = DraftCommon.class.getDeclaredClasses();
        Check.that("some twelve classes at most", classes.length + 1 <= 12);
        for (Class<?> inner : classes) {
            int modifiers = inner.getModifiers();
            Check.that(inner + " is static and neither public nor protected", Modifier.isStatic(modifiers)
                    && !Modifier.isPublic(modifiers) && !Modifier.isProtected(modifiers));
        }
    }
}
