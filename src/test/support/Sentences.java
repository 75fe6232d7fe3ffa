import java.lang.reflect.InvocationTargetException;
import java.lang.reflect.Method;
import java.util.Arrays;
import java.util.Comparator;

/** Runs every test of a class that holds a sentence, and tells which sentences do not hold. */
final class Sentences {
    private static String held = "";
    private static int wrong = 0;

    private Sentences() {
    }

    static void check(String what, Object got, Object want) {
        if (!got.equals(want)) {
            wrong++;
            System.out.println("\"" + held + "\": " + what + " answered " + got + ", due is " + want);
        }
    }

    static void runAll(Class<?> tests) {
        Method[] methods = tests.getDeclaredMethods();
        Arrays.sort(methods, Comparator.comparing(Method::getName));
        int ran = 0;
        int failed = 0;
        for (Method method : methods) {
            Sentence sentence = method.getAnnotation(Sentence.class);
            if (sentence != null) {
                held = sentence.value();
                ran++;
                failed += holds(method) ? 0 : 1;
            }
        }
        System.out.println(ran + " tests of sentences, " + failed + " of which do not hold");
        if (ran == 0 || failed != 0) {
            System.exit(1);
        }
    }

    private static boolean holds(Method test) {
        int before = wrong;
        try {
            test.invoke(null);
        } catch (InvocationTargetException | IllegalAccessException e) {
            wrong++;
            System.out.println("\"" + held + "\": " + test.getName() + " threw " + e.getCause());
        }
        return wrong == before;
    }
}
