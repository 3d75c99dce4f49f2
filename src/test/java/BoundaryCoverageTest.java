import java.lang.reflect.Method;
import java.util.Arrays;
import java.util.Map;

/** Each sentence that a boundary test holds stands in the document, and none of the document's has no test. */
public final class BoundaryCoverageTest {
    private static final Class<?>[] TESTS = {
        BoundaryTermsTest.class, BoundaryTerms1Test.class, BoundaryTerms2Test.class, BoundaryTerms3Test.class,
        BoundaryPromises1To7Test.class, BoundaryPromises8To10Test.class, BoundaryPromises11To14Test.class};

    public static void main(String[] args) throws Exception {
        if (!Document.isHere()) {
            System.out.println("BoundaryCoverageTest: the document is not here, nothing is compared with it");
            return;
        }
        Map<String, String> sections = Document.sections();
        int compared = 0;
        for (Map.Entry<String, String> section : sections.entrySet()) {
            if (section.getKey().matches("Terms.*|Promise \\d+")) {
                compared++;
                dueHeld(section.getKey(), section.getValue());
            }
        }
        Due.due("sections of the document", compared, 4 + 14);
        for (Class<?> tests : TESTS) {
            dueInDocument(tests, sections);
        }
        Due.end("BoundaryCoverageTest: " + compared + " sections");
    }

    private static void dueInDocument(Class<?> tests, Map<String, String> sections) {
        for (Method m : tests.getDeclaredMethods()) {
            Holds holds = m.getAnnotation(Holds.class);
            if (holds != null) {
                String text = sections.getOrDefault(holds.in(), "");
                Due.due(m.getName() + ", \"" + holds.says() + "\" in " + holds.in(), text.contains(holds.says()), true);
            }
        }
    }

    /** What no test holds may be the face of the call, which stands ahead of its sentences, and blanks. */
    private static void dueHeld(String name, String text) {
        char[] left = text.replaceFirst("^`[^`]*`:", "").toCharArray();
        String all = new String(left);
        for (Class<?> tests : TESTS) {
            for (Method m : tests.getDeclaredMethods()) {
                Holds holds = m.getAnnotation(Holds.class);
                if (holds != null && holds.in().equals(name)) {
                    strike(left, all, holds.says());
                }
            }
        }
        Due.due("what no test holds of " + name, Document.plain(new String(left)), "");
    }

    private static void strike(char[] left, String all, String says) {
        for (int at = all.indexOf(says); at >= 0; at = all.indexOf(says, at + 1)) {
            Arrays.fill(left, at, at + says.length(), ' ');
        }
    }
}
