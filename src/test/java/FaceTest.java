import java.lang.reflect.Constructor;
import java.lang.reflect.Field;
import java.lang.reflect.Member;
import java.lang.reflect.Method;
import java.lang.reflect.Modifier;
import java.nio.file.Files;
import java.nio.file.Path;
import java.util.ArrayList;
import java.util.List;
import java.util.Set;
import java.util.TreeSet;

/** The class's face, and those rules of LANGUAGE.md that can be seen from outside the compiler. */
public final class FaceTest {
    private static final Path SOURCE = Path.of("src/main/java/TagCarrier.java");
    private static final Set<String> FACE = Set.of(
        "say(int)", "wipe()", "fault()", "load()", "target(int)", "link(int,int)", "pair(int,int)",
        "mark(int,int)", "total(int)", "sign(int)", "image(int)", "restore(int)", "told(int)");
    private static final Set<String> CONSTANTS = Set.of("NONE=-6", "UNKNOWN=-1", "OUTSIDE=-2", "STATE=-3", "FULL=-4", "NO=-5");
    private static final String[] BARRED = {
        "throw", "throws", "try", "catch", "synchronized", "assert", "import", "package", "protected",
        "Object", "MAX_VALUE", "MIN_VALUE", "hashCode", "toString"};

    private static int wrong = 0;

    private static void check(boolean fine, String what) {
        if (!fine) {
            wrong++;
            System.out.println("FaceTest: " + what);
        }
    }

    public static void main(String[] args) throws Exception {
        checkClass();
        checkMembers();
        checkNested();
        checkText();
        System.out.println(wrong == 0 ? "FaceTest: all as due" : "FaceTest: " + wrong + " wrong");
        if (wrong != 0) {
            System.exit(1);
        }
    }

    private static void checkClass() {
        int flags = TagCarrier.class.getModifiers();
        check(Modifier.isPublic(flags) && Modifier.isFinal(flags), "the class is public and final");
        Constructor<?>[] made = TagCarrier.class.getDeclaredConstructors();
        check(made.length == 1 && made[0].getParameterCount() == 0 && Modifier.isPublic(made[0].getModifiers()),
            "there is one constructor, public, without parameters");
    }

    private static void checkMembers() throws Exception {
        Set<String> methods = new TreeSet<>();
        for (Method m : TagCarrier.class.getDeclaredMethods()) {
            if (!Modifier.isPrivate(m.getModifiers()) && !m.isSynthetic()) {
                methods.add(shown(m));
                check(m.getReturnType() == int.class && Modifier.isPublic(m.getModifiers())
                    && !Modifier.isStatic(m.getModifiers()), m + " is public and answers an int");
            }
        }
        check(methods.equals(FACE), "methods are " + methods);
        Set<String> constants = new TreeSet<>();
        for (Field f : TagCarrier.class.getDeclaredFields()) {
            if (!Modifier.isPrivate(f.getModifiers()) && !f.isSynthetic()) {
                check(Modifier.isStatic(f.getModifiers()) && Modifier.isFinal(f.getModifiers()), f + " is a constant");
                constants.add(f.getName() + "=" + f.getInt(null));
            }
            check(!Modifier.isStatic(f.getModifiers()) || Modifier.isFinal(f.getModifiers()), f + ": static and not final");
        }
        check(constants.equals(CONSTANTS), "constants are " + constants);
    }

    private static String shown(Method m) {
        List<String> types = new ArrayList<>();
        for (Class<?> type : m.getParameterTypes()) {
            types.add(type.getName());
        }
        return m.getName() + "(" + String.join(",", types) + ")";
    }

    private static void checkNested() {
        Set<String> names = new TreeSet<>();
        for (String method : FACE) {
            names.add(method.substring(0, method.indexOf('(')));
        }
        Class<?>[] nested = TagCarrier.class.getDeclaredClasses();
        check(nested.length <= 12, "there are at most twelve classes");
        for (Class<?> c : nested) {
            check(Modifier.isStatic(c.getModifiers()) && Modifier.isPrivate(c.getModifiers()), c + " is static and private");
            int fields = 0;
            for (Field f : c.getDeclaredFields()) {
                fields += Modifier.isStatic(f.getModifiers()) ? 0 : 1;
            }
            check(fields <= 20, c + " has at most twenty fields");
            for (Member m : c.getDeclaredMethods()) {
                check(!names.contains(m.getName()), c + " has no method named " + m.getName());
            }
        }
    }

    private static void checkText() throws Exception {
        String text = Files.readString(SOURCE).replaceAll("(?s)/\\*.*?\\*/", " ").replaceAll("//[^\n]*", " ");
        for (String word : BARRED) {
            check(!text.matches("(?s).*\\b" + word + "\\b.*"), "the word " + word + " is barred");
        }
        check(!text.contains("->") && !text.contains("::"), "no lambda, no method reference");
    }
}
