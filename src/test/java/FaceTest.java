import java.lang.reflect.Constructor;
import java.lang.reflect.Field;
import java.lang.reflect.Method;
import java.lang.reflect.Modifier;
import java.util.ArrayList;
import java.util.List;
import java.util.Set;
import java.util.TreeSet;

/** The class's face, as the document tells it. */
public final class FaceTest {
    private static final Set<String> FACE = Set.of(
        "say(int)", "wipe()", "fault()", "load()", "target(int)", "link(int,int)", "pair(int,int)",
        "mark(int,int)", "total(int)", "sign(int)", "image(int)", "restore(int)", "told(int)");
    private static final Set<String> CONSTANTS = Set.of("NONE=-6", "UNKNOWN=-1", "OUTSIDE=-2", "STATE=-3", "FULL=-4", "NO=-5");
    private static int wrong = 0;

    private static void check(boolean fine, String what) {
        if (!fine) {
            wrong++;
            System.out.println("FaceTest: " + what);
        }
    }

    public static void main(String[] args) throws Exception {
        checkClass();
        checkMembers();
        System.out.println(wrong == 0 ? "FaceTest: all as due" : "FaceTest: " + wrong + " wrong");
        if (wrong != 0) {
            System.exit(1);
        }
    }

    private static void checkClass() {
        int flags = TagCarrier.class.getModifiers();
        check(Modifier.isPublic(flags) && Modifier.isFinal(flags), "the class is public and final");
        Constructor<?>[] made = TagCarrier.class.getDeclaredConstructors();
        check(made.length == 1 && made[0].getParameterCount() == 0 && Modifier.isPublic(made[0].getModifiers()),
            "there is one constructor, public, without parameters");
    }

    private static void checkMembers() throws Exception {
        Set<String> methods = new TreeSet<>();
        for (Method m : TagCarrier.class.getDeclaredMethods()) {
            if (!Modifier.isPrivate(m.getModifiers()) && !m.isSynthetic()) {
                methods.add(shown(m));
                check(m.getReturnType() == int.class && Modifier.isPublic(m.getModifiers())
                    && !Modifier.isStatic(m.getModifiers()), m + " is public and answers an int");
            }
        }
        check(methods.equals(FACE), "methods are " + methods);
        Set<String> constants = new TreeSet<>();
        for (Field f : TagCarrier.class.getDeclaredFields()) {
            if (!Modifier.isPrivate(f.getModifiers()) && !f.isSynthetic()) {
                check(Modifier.isStatic(f.getModifiers()) && Modifier.isFinal(f.getModifiers()), f + " is a constant");
                constants.add(f.getName() + "=" + f.getInt(null));
            }
            check(!Modifier.isStatic(f.getModifiers()) || Modifier.isFinal(f.getModifiers()), f + ": static and not final");
        }
        check(constants.equals(CONSTANTS), "constants are " + constants);
    }

    private static String shown(Method m) {
        List<String> types = new ArrayList<>();
        for (Class<?> type : m.getParameterTypes()) {
            types.add(type.getName());
        }
        return m.getName() + "(" + String.join(",", types) + ")";
    }
}
