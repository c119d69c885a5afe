import java.lang.reflect.Constructor;
import java.lang.reflect.Executable;
import java.lang.reflect.Field;
import java.lang.reflect.Method;
import java.lang.reflect.Modifier;
import java.util.Arrays;
import java.util.Set;
import java.util.TreeSet;

/** The class shows the document's face and nothing else (LANGUAGE.md, rules 1 and 5). */
public final class FaceTest {
    private static final Set<String> FACE = Set.of(
        "PermGroup()",
        "boolean points(int)",
        "int degree()",
        "int add(int)",
        "boolean drop()",
        "int generators()",
        "int generator(int)",
        "int product(int, int)",
        "int inverse(int)",
        "int order()",
        "boolean contains(int)",
        "int element(int) throws java.lang.IndexOutOfBoundsException",
        "int rank(int) throws java.lang.IllegalArgumentException, java.util.NoSuchElementException",
        "int least(int) throws java.lang.IllegalArgumentException",
        "int orbit(int)",
        "int fixing(int)",
        "int even()");

    private static int wrong = 0;

    public static void main(String[] args) {
        Class<?> tested = PermGroup.class;
        check(tested.getModifiers() == (Modifier.PUBLIC | Modifier.FINAL), "the class is public and final");
        check(visibleCalls(tested).equals(new TreeSet<>(FACE)),
            "the face is the document's, not " + visibleCalls(tested));
        for (Field field : tested.getDeclaredFields()) {
            check(Modifier.isPrivate(field.getModifiers()), "private: " + field);
            check(!Modifier.isStatic(field.getModifiers()) || Modifier.isFinal(field.getModifiers()),
                "static only if final: " + field);
        }
        for (Method method : tested.getDeclaredMethods()) {
            check(Modifier.isPublic(method.getModifiers()) || !hasPublicNamed(tested, method.getName()),
                "no private method bears the name of a public one: " + method);
            check(method.getParameterCount() <= 7, "at most seven parameters: " + method);
        }
        System.out.println(wrong == 0 ? "the face is as due" : wrong + " faults in the face");
        if (wrong != 0) {
            System.exit(1);
        }
    }

    private static Set<String> visibleCalls(Class<?> tested) {
        Set<String> calls = new TreeSet<>();
        for (Constructor<?> constructor : tested.getDeclaredConstructors()) {
            if (!Modifier.isPrivate(constructor.getModifiers())) {
                calls.add(described("", constructor));
            }
        }
        for (Method method : tested.getDeclaredMethods()) {
            if (!Modifier.isPrivate(method.getModifiers())) {
                calls.add(described(method.getReturnType().getName() + " ", method));
            }
        }
        return calls;
    }

    private static String described(String result, Executable call) {
        String thrown = names(call.getExceptionTypes());
        String only = call.getModifiers() == Modifier.PUBLIC ? "" : Modifier.toString(call.getModifiers()) + " ";
        return only + result + call.getName() + "(" + names(call.getParameterTypes()) + ")"
            + (thrown.isEmpty() ? "" : " throws " + thrown);
    }

    private static String names(Class<?>[] types) {
        return String.join(", ", Arrays.stream(types).map(Class::getName).toList());
    }

    private static boolean hasPublicNamed(Class<?> tested, String name) {
        return Arrays.stream(tested.getDeclaredMethods())
            .anyMatch(m -> Modifier.isPublic(m.getModifiers()) && m.getName().equals(name));
    }

    private static void check(boolean holds, String what) {
        if (!holds) {
            wrong++;
            System.out.println("does not hold: " + what);
        }
    }
}
