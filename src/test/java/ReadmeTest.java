import java.lang.reflect.Method;
import java.lang.reflect.Modifier;
import java.net.URI;
import java.net.URL;
import java.net.URLClassLoader;
import java.nio.file.Files;
import java.nio.file.Path;
import java.util.ArrayList;
import java.util.List;
import java.util.regex.Matcher;
import java.util.regex.Pattern;
import javax.tools.JavaCompiler;
import javax.tools.JavaFileObject;
import javax.tools.SimpleJavaFileObject;
import javax.tools.ToolProvider;

/** README.md: its example is compiled and run, and each public call and constant has a row. */
public final class ReadmeTest {
    private static final Pattern ANSWERED = Pattern.compile("(carrier\\.\\w+\\([^;]*\\));\\s+// (-?\\d+).*");
    private static final Pattern WRITTEN = Pattern.compile("signs that are written: (\\S+)");

    public static void main(String[] args) throws Exception {
        String readme = Files.readString(Path.of("README.md"));
        dueRows(readme);
        dueExample(readme);
        Due.end("ReadmeTest");
    }

    private static void dueRows(String readme) throws Exception {
        for (Method m : TagCarrier.class.getDeclaredMethods()) {
            if (Modifier.isPublic(m.getModifiers())) {
                Due.due("a row for " + m.getName(), readme.contains("\n| `" + m.getName() + "("), true);
            }
        }
        for (String name : new String[] {"UNKNOWN", "OUTSIDE", "NO", "STATE", "FULL"}) {
            int number = TagCarrier.class.getField(name).getInt(null);
            Due.due("a row for " + name, readme.contains("\n| `" + name + "` | " + number + " |"), true);
        }
        Due.due("NONE", readme.contains("`NONE` (" + TagCarrier.NONE + ")"), true);
    }

    /** Each row of the example with a number behind it is one answer; its text comes first, then what is due. */
    private static void dueExample(String readme) throws Exception {
        String example = readme.replaceFirst("(?s).*?```java\n(.*?)```.*", "$1");
        List<String> calls = new ArrayList<>();
        List<Integer> due = new ArrayList<>();
        StringBuilder body = new StringBuilder();
        for (String row : example.split("\n")) {
            Matcher answered = ANSWERED.matcher(row);
            if (answered.matches()) {
                calls.add(answered.group(1));
                due.add(Integer.parseInt(answered.group(2)));
                body.append("answers.add(").append(answered.group(1)).append(");\n");
            } else {
                body.append(row).append('\n');
            }
        }
        Due.due("the example has answers", calls.size() > 10, true);
        List<Integer> answers = new ArrayList<>();
        String written = run(body.toString(), answers);
        Due.due("how many answers", answers.size(), due.size());
        for (int i = 0; i < answers.size() && i < due.size(); i++) {
            Due.due(calls.get(i), answers.get(i), due.get(i));
        }
        Matcher told = WRITTEN.matcher(example);
        Due.due("what is written", written, told.find() ? told.group(1) : "told in the example");
    }

    private static String run(String body, List<Integer> answers) throws Exception {
        Path classes = Files.createTempDirectory("readme");
        String text = "public final class Example { public static String run(java.util.List<Integer> answers) {\n" + body
            + "String written = \"\"; for (int i = 0; i < carrier.sign(-1); i++) written += (char) carrier.sign(i);\n"
            + "return written; } }";
        JavaFileObject file = new SimpleJavaFileObject(URI.create("string:///Example.java"), JavaFileObject.Kind.SOURCE) {
            @Override
            public CharSequence getCharContent(boolean ignored) {
                return text;
            }
        };
        JavaCompiler compiler = ToolProvider.getSystemJavaCompiler();
        List<String> options = List.of("-d", classes.toString(), "-cp", System.getProperty("java.class.path"), "-proc:none");
        Due.due("the example compiles", compiler.getTask(null, null, null, options, null, List.of(file)).call(), true);
        try (URLClassLoader loader = new URLClassLoader(new URL[] {classes.toUri().toURL()})) {
            return (String) loader.loadClass("Example").getMethod("run", List.class).invoke(null, answers);
        } finally {
            Files.deleteIfExists(classes.resolve("Example.class"));
            Files.deleteIfExists(classes);
        }
    }
}
