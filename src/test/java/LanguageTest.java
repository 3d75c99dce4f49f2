import com.sun.source.tree.*;
import com.sun.source.util.JavacTask;
import com.sun.source.util.TreePathScanner;
import com.sun.source.util.Trees;
import java.io.File;
import java.util.ArrayDeque;
import java.util.Deque;
import java.util.EnumSet;
import java.util.List;
import java.util.Map;
import java.util.Set;
import java.util.TreeMap;
import java.util.TreeSet;
import javax.lang.model.element.Element;
import javax.lang.model.element.ElementKind;
import javax.lang.model.element.Modifier;
import javax.tools.JavaCompiler;
import javax.tools.StandardJavaFileManager;
import javax.tools.ToolProvider;

/**
 * Those rules of LANGUAGE.md that can be read off the compiler's own tree of the class. Where a rule allows more
 * than the class needs, the test allows what the class needs: a new construct is to be looked at.
 */
public final class LanguageTest {
    private static final File SOURCE = new File("src/main/java/TagCarrier.java");
    private static final int MOST_PARAMETERS = 7;
    private static final int MOST_LINES = 60;
    private static final int MOST_DEEP = 8;
    private static final int MOST_CLASSES = 12;
    private static final int MOST_FIELDS = 20;
    private static final Set<String> LIBRARY = Set.of("Math.abs(int)", "Math.max(int,int)", "Math.min(int,int)",
        "Math.min(long,long)", "Integer.bitCount(int)");
    private static final Set<String> NUMBERS = Set.of("int", "long", "boolean", "int[]", "long[]");
    private static final Set<String> OF_EVERY_OBJECT = Set.of("equals", "hashCode", "toString");
    private static final Set<Tree.Kind> BARRED = EnumSet.of(
        Tree.Kind.THROW, Tree.Kind.TRY, Tree.Kind.CATCH, Tree.Kind.SYNCHRONIZED, Tree.Kind.ASSERT,
        Tree.Kind.LAMBDA_EXPRESSION, Tree.Kind.MEMBER_REFERENCE, Tree.Kind.IMPORT, Tree.Kind.PACKAGE,
        Tree.Kind.WHILE_LOOP, Tree.Kind.DO_WHILE_LOOP, Tree.Kind.DIVIDE, Tree.Kind.REMAINDER,
        Tree.Kind.DIVIDE_ASSIGNMENT, Tree.Kind.REMAINDER_ASSIGNMENT, Tree.Kind.INSTANCE_OF,
        Tree.Kind.FLOAT_LITERAL, Tree.Kind.DOUBLE_LITERAL, Tree.Kind.STRING_LITERAL, Tree.Kind.ANNOTATION);

    public static void main(String[] args) throws Exception {
        JavaCompiler compiler = ToolProvider.getSystemJavaCompiler();
        try (StandardJavaFileManager files = compiler.getStandardFileManager(null, null, null)) {
            JavacTask task = (JavacTask) compiler.getTask(null, files, null, List.of("--release", "17", "-proc:none"), null,
                files.getJavaFileObjects(SOURCE));
            CompilationUnitTree unit = task.parse().iterator().next();
            task.analyze();
            Rules rules = new Rules(Trees.instance(task), unit);
            rules.scan(unit, null);
            rules.dueAtTheEnd();
        }
        Due.end("LanguageTest");
    }

    /** One walk over the tree: what stands at one place is held there, what needs all of it at the end. */
    private static final class Rules extends TreePathScanner<Void, Void> {
        private final Trees trees;
        private final CompilationUnitTree unit;
        private final Map<String, Set<String>> calls = new TreeMap<>();
        private final Set<String> faceNames = new TreeSet<>();
        private final Set<String> otherNames = new TreeSet<>();
        private final Deque<String> within = new ArrayDeque<>();
        private final Map<String, String> types = new TreeMap<>();
        private final Set<String> classes = new TreeSet<>();
        private int loops = 0;

        Rules(Trees trees, CompilationUnitTree unit) {
            this.trees = trees;
            this.unit = unit;
        }

        private String at(Tree tree) {
            return "line " + unit.getLineMap().getLineNumber(trees.getSourcePositions().getStartPosition(unit, tree)) + ", ";
        }

        private static String nameOf(Element method) {
            Element owner = method.getEnclosingElement();
            return owner.getSimpleName() + "." + (method.getKind() == ElementKind.CONSTRUCTOR
                ? method.toString().replaceFirst("^[^(]*", "new") : method.toString());
        }

        @Override
        public Void scan(Tree tree, Void nothing) {
            if (tree != null) {
                Due.due(at(tree) + "rules 2, 4, 6, 9: a " + tree.getKind(), BARRED.contains(tree.getKind()), false);
            }
            return super.scan(tree, nothing);
        }

        @Override
        public Void visitClass(ClassTree tree, Void nothing) {
            classes.add(tree.getSimpleName().toString());
            boolean outer = getCurrentPath().getParentPath().getLeaf() instanceof CompilationUnitTree;
            Set<Modifier> flags = tree.getModifiers().getFlags();
            Due.due(at(tree) + "rule 2: a class in the class", getCurrentPath().getParentPath().getLeaf() instanceof ClassTree, !outer);
            Due.due(at(tree) + "rule 1: its modifiers", flags,
                outer ? Set.of(Modifier.PUBLIC, Modifier.FINAL) : Set.of(Modifier.PRIVATE, Modifier.STATIC, Modifier.FINAL));
            int fields = 0;
            for (Tree member : tree.getMembers()) {
                Due.due(at(member) + "rule 5: an initialiser block", member instanceof BlockTree, false);
                if (member instanceof VariableTree) {
                    Set<Modifier> ofField = ((VariableTree) member).getModifiers().getFlags();
                    fields += ofField.contains(Modifier.STATIC) ? 0 : 1;
                    Due.due(at(member) + "rule 5: static and not final",
                        ofField.contains(Modifier.STATIC) && !ofField.contains(Modifier.FINAL), false);
                    Due.due(at(member) + "rule 5: a constant of int or long",
                        !ofField.contains(Modifier.STATIC) || isNumber(((VariableTree) member).getType()), true);
                }
            }
            Due.due(at(tree) + "rule 11: its fields are too many", fields > MOST_FIELDS, false);
            return super.visitClass(tree, nothing);
        }

        private static boolean isNumber(Tree type) {
            return type.toString().equals("int") || type.toString().equals("long");
        }

        @Override
        public Void visitMethod(MethodTree tree, Void nothing) {
            String name = nameOf(trees.getElement(getCurrentPath()));
            calls.putIfAbsent(name, new TreeSet<>());
            Due.due(at(tree) + "rule 11: parameters are too many", tree.getParameters().size() > MOST_PARAMETERS, false);
            Due.due(at(tree) + "rule 11: lines are too many", linesOf(tree) > MOST_LINES, false);
            boolean ofTheFace = name.startsWith("TagCarrier.") && tree.getModifiers().getFlags().contains(Modifier.PUBLIC);
            (ofTheFace ? faceNames : otherNames).add(tree.getName().toString());
            within.push(name);
            super.visitMethod(tree, nothing);
            within.pop();
            return null;
        }

        private long linesOf(MethodTree tree) {
            long first = trees.getSourcePositions().getStartPosition(unit, tree);
            long last = trees.getSourcePositions().getEndPosition(unit, tree);
            return unit.getLineMap().getLineNumber(last) - unit.getLineMap().getLineNumber(first) + 1;
        }

        @Override
        public Void visitVariable(VariableTree tree, Void nothing) {
            types.put(tree.getType().toString(), at(tree));
            return super.visitVariable(tree, nothing);
        }

        @Override
        public Void visitTypeCast(TypeCastTree tree, Void nothing) {
            Due.due(at(tree) + "rule 6: a cast to a number", isNumber(tree.getType()), true);
            return super.visitTypeCast(tree, nothing);
        }

        @Override
        public Void visitForLoop(ForLoopTree tree, Void nothing) {
            Due.due(at(tree) + "rule 9: a loop has an end, a step and one counter",
                tree.getCondition() != null && tree.getUpdate().size() == 1 && tree.getInitializer().size() == 1, true);
            String counter = ((VariableTree) tree.getInitializer().get(0)).getName().toString();
            Due.due(at(tree) + "rule 9: the step is the counter's", tree.getUpdate().get(0).toString().contains(counter), true);
            Due.due(at(tree) + "rule 9: the loop's own lines leave the counter alone",
                tree.getStatement().toString().matches("(?s).*\\b" + counter + "(\\+\\+|--| [-+*&|^]?= ).*"), false);
            loops++;
            super.visitForLoop(tree, nothing);
            loops--;
            return null;
        }

        @Override
        public Void visitNewClass(NewClassTree tree, Void nothing) {
            Due.due(at(tree) + "rule 2: a class without a name", tree.getClassBody() != null, false);
            Due.due(at(tree) + "rule 12: an object made in a loop", loops > 0, false);
            addCall(nameOf(trees.getElement(getCurrentPath())));
            return super.visitNewClass(tree, nothing);
        }

        @Override
        public Void visitNewArray(NewArrayTree tree, Void nothing) {
            Due.due(at(tree) + "rule 12: an array made by a method that is called again", !within.isEmpty()
                && !within.peek().contains(".new("), false);
            Due.due(at(tree) + "rule 12: an array made in a loop", loops > 0, false);
            return super.visitNewArray(tree, nothing);
        }

        @Override
        public Void visitMethodInvocation(MethodInvocationTree tree, Void nothing) {
            Element called = trees.getElement(getCurrentPath());
            String name = nameOf(called);
            boolean ofEveryConstructor = name.equals("Object.new()");
            Due.due(at(tree) + "rule 4: " + name + " is known", isOwn(called) || LIBRARY.contains(name) || ofEveryConstructor, true);
            addCall(name);
            return super.visitMethodInvocation(tree, nothing);
        }

        @Override
        public Void visitMemberSelect(MemberSelectTree tree, Void nothing) {
            Element selected = trees.getElement(getCurrentPath());
            if (selected.getKind() == ElementKind.FIELD) {
                Due.due(at(tree) + "rule 4: " + tree + " is known", isOwn(selected), true);
            }
            return super.visitMemberSelect(tree, nothing);
        }

        private static boolean isOwn(Element member) {
            Element owner = member.getEnclosingElement();
            return owner.toString().equals("TagCarrier") || owner.toString().startsWith("TagCarrier.");
        }

        private void addCall(String name) {
            if (!within.isEmpty()) {
                calls.get(within.peek()).add(name);
            }
        }

        void dueAtTheEnd() {
            Due.due("rule 11: classes are too many", classes.size() > MOST_CLASSES, false);
            types.forEach((type, at) -> Due.due(at + "rule 3: the type " + type + " is known",
                NUMBERS.contains(type) || classes.contains(type.replace("[]", "")), true));
            Set<String> ofEveryObject = new TreeSet<>(OF_EVERY_OBJECT);
            ofEveryObject.retainAll(otherNames);
            Due.due("rule 6: methods that every object has", ofEveryObject.toString(), "[]");
            Set<String> both = new TreeSet<>(faceNames);
            both.retainAll(otherNames);
            both.remove("<init>");
            Due.due("rule 1: names of public methods that others bear", both.toString(), "[]");
            int deepest = 0;
            for (String method : calls.keySet()) {
                deepest = Math.max(deepest, depth(method, new ArrayDeque<>()));
            }
            Due.due("rule 11: the tree was walked", deepest > 3, true);
        }

        /** How many calls stand open at once, the call itself and the library's counted. */
        private int depth(String method, Deque<String> open) {
            Due.due("rule 8: " + method + " is called within itself", open.contains(method), false);
            if (open.contains(method)) {
                return 0;
            }
            open.addLast(method);
            Due.due("rule 11: too deep: " + (open.size() > MOST_DEEP ? open : ""), open.size() > MOST_DEEP, false);
            int deepest = 0;
            for (String called : calls.getOrDefault(method, Set.of())) {
                deepest = Math.max(deepest, depth(called, open));
            }
            open.removeLast();
            return deepest + 1;
        }
    }
}
