import java.lang.reflect.InvocationTargetException;
import java.lang.reflect.Method;
import java.lang.reflect.Modifier;
import java.util.Map;
import java.util.TreeMap;

/** Runs the tests of a class and counts the answers that are not the ones that are due. */
final class Due {
    private static int wrong = 0;
    private static String test = "";

    private Due() {
    }

    static void due(String what, Object got, Object want) {
        if (!want.equals(got)) {
            wrong++;
            System.out.println(test + ": " + what + " answered " + got + ", due is " + want);
        }
    }

    /** Runs each static method that tells which sentence it holds; ends with exit code 1 if one is wrong. */
    static void runAll(Class<?> tests) throws IllegalAccessException {
        Map<String, Method> methods = new TreeMap<>();
        for (Method m : tests.getDeclaredMethods()) {
            if (m.isAnnotationPresent(Holds.class)) {
                methods.put(m.getName(), m);
            }
        }
        test = tests.getName();
        due("has tests", !methods.isEmpty(), true);
        for (Method m : methods.values()) {
            Holds holds = m.getAnnotation(Holds.class);
            test = tests.getName() + "." + m.getName() + " (" + holds.in() + ": \"" + holds.says() + "\")";
            due("is static, without parameters", Modifier.isStatic(m.getModifiers()) && m.getParameterCount() == 0, true);
            run(m);
        }
        end(tests.getName() + ": " + methods.size() + " tests");
    }

    private static void run(Method m) throws IllegalAccessException {
        try {
            m.invoke(null);
        } catch (InvocationTargetException e) {
            e.getCause().printStackTrace(System.out);
            due("ended", e.getCause().toString(), "without an exception");
        }
    }

    static void end(String what) {
        System.out.println(what + (wrong == 0 ? ", all as due" : ", " + wrong + " answers wrong"));
        if (wrong != 0) {
            System.exit(1);
        }
    }
}
