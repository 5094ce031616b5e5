import com.sun.source.tree.AssertTree;
import com.sun.source.tree.BinaryTree;
import com.sun.source.tree.BlockTree;
import com.sun.source.tree.ClassTree;
import com.sun.source.tree.CompilationUnitTree;
import com.sun.source.tree.ImportTree;
import com.sun.source.tree.LambdaExpressionTree;
import com.sun.source.tree.LineMap;
import com.sun.source.tree.MemberReferenceTree;
import com.sun.source.tree.MemberSelectTree;
import com.sun.source.tree.MethodInvocationTree;
import com.sun.source.tree.MethodTree;
import com.sun.source.tree.NewClassTree;
import com.sun.source.tree.SynchronizedTree;
import com.sun.source.tree.ThrowTree;
import com.sun.source.tree.Tree;
import com.sun.source.tree.TryTree;
import com.sun.source.tree.VariableTree;
import com.sun.source.util.JavacTask;
import com.sun.source.util.SourcePositions;
import com.sun.source.util.TreeScanner;
import com.sun.source.util.Trees;
import java.lang.reflect.Constructor;
import java.lang.reflect.Field;
import java.lang.reflect.Method;
import java.lang.reflect.Modifier;
import java.nio.file.Files;
import java.nio.file.Path;
import java.util.ArrayList;
import java.util.HashMap;
import java.util.HashSet;
import java.util.List;
import java.util.Map;
import java.util.Set;
import java.util.TreeSet;
import java.util.regex.Matcher;
import java.util.regex.Pattern;
import javax.tools.JavaCompiler;
import javax.tools.StandardJavaFileManager;
import javax.tools.ToolProvider;

/** The public face, as the document writes it, and the rules of LANGUAGE.md that the source shows. */
public final class LanguageTest {
    private static final Path SOURCE = Path.of("src/main/java/HoursDesk.java");
    private static final Path DOCUMENT = Path.of("../shared/DOC.md");
    /** Of what the rules allow, only what the class uses. */
    private static final Set<String> LIBRARY = Set.of("Math.min", "Math.max", "Integer.bitCount", "System.arraycopy");

    public static void main(String[] args) throws Exception {
        face();
        headings();
        nestedClasses();
        source();
        Due.end();
    }

    private static void face() throws Exception {
        Set<String> due = new TreeSet<>();
        Matcher line = Pattern.compile("(?m)^    public int (\\w+)\\(([^)]*)\\);$").matcher(Files.readString(DOCUMENT));
        while (line.find()) {
            due.add(line.group(1) + "(" + line.group(2).replaceAll(" \\w+(?=,|$)", "") + ")");
        }
        Due.is("the document's methods", due.size(), 32);
        Set<String> there = new TreeSet<>();
        Set<String> publicNames = new HashSet<>();
        for (Method m : HoursDesk.class.getDeclaredMethods()) {
            if (Modifier.isPublic(m.getModifiers())) {
                publicNames.add(m.getName());
                List<String> types = new ArrayList<>();
                for (Class<?> type : m.getParameterTypes()) {
                    types.add(type.getName());
                }
                there.add(m.getName() + "(" + String.join(", ", types) + ")");
                Due.that("answers an int: " + m, m.getReturnType() == int.class);
                Due.that("is no static one: " + m, !Modifier.isStatic(m.getModifiers()));
            }
        }
        Due.that("rule 1: methods are " + there + ", due are " + due, there.equals(due));
        for (Method m : HoursDesk.class.getDeclaredMethods()) {
            if (!Modifier.isPublic(m.getModifiers())) {
                Due.that("rule 1: private: " + m, Modifier.isPrivate(m.getModifiers()));
                Due.that("rule 1: a public one's name: " + m, !publicNames.contains(m.getName()));
            }
        }
        for (Field f : HoursDesk.class.getDeclaredFields()) {
            Due.that("rule 1: private: " + f, Modifier.isPrivate(f.getModifiers()));
        }
        Constructor<?>[] made = HoursDesk.class.getDeclaredConstructors();
        Due.is("rule 1: constructors", made.length, 1);
        Due.that("rule 1: public constructor", Modifier.isPublic(made[0].getModifiers()) && made[0].getParameterCount() == 0);
        Due.that("rule 1: final", Modifier.isFinal(HoursDesk.class.getModifiers()));
        Due.that("no package", HoursDesk.class.getPackageName().isEmpty());
    }

    /** "Ahead of the calls .. the interface says": so do the source's lines, with the same calls in the same order. */
    private static void headings() throws Exception {
        List<String> due = new ArrayList<>();
        Matcher sentence = Pattern.compile("(?m)^Ahead of the calls (.*) the interface says: (---- .*)\\.$")
                .matcher(Files.readString(DOCUMENT));
        while (sentence.find()) {
            due.add(sentence.group(2));
            due.addAll(List.of(sentence.group(1).replace("`", "").split(", ")));
        }
        Due.is("the document's headings and calls", due.size(), 6 + 32);
        List<String> there = new ArrayList<>();
        Matcher line = Pattern.compile("(?m)^    // (---- .*)$|^    public int (\\w+)\\(").matcher(Files.readString(SOURCE));
        while (line.find() && there.size() < due.size()) {
            there.add(line.group(1) != null ? line.group(1) : line.group(2));
        }
        Due.that("headings and calls are " + there + ", due are " + due, there.equals(due));
    }

    private static void nestedClasses() {
        Class<?>[] nested = HoursDesk.class.getDeclaredClasses();
        Due.that("rule 11: classes", nested.length + 1 <= 12);
        for (Class<?> c : nested) {
            Due.that("rule 2: static: " + c, Modifier.isStatic(c.getModifiers()));
            fieldsOf(c);
        }
        fieldsOf(HoursDesk.class);
    }

    private static void fieldsOf(Class<?> c) {
        int own = 0;
        for (Field f : c.getDeclaredFields()) {
            if (Modifier.isStatic(f.getModifiers())) {
                Due.that("rule 5: final: " + f, Modifier.isFinal(f.getModifiers()));
            } else {
                own++;
            }
        }
        Due.that("rule 11: fields of " + c, own <= 20);
    }

    private static void source() throws Exception {
        JavaCompiler compiler = ToolProvider.getSystemJavaCompiler();
        try (StandardJavaFileManager files = compiler.getStandardFileManager(null, null, null)) {
            JavacTask task = (JavacTask) compiler.getTask(null, files, null, null, null,
                    files.getJavaFileObjects(SOURCE));
            for (CompilationUnitTree unit : task.parse()) {
                Rules rules = new Rules(unit, Trees.instance(task).getSourcePositions());
                rules.scan(unit, null);
                rules.depths();
            }
        }
        for (char c : Files.readString(SOURCE).toCharArray()) {
            if (c > 126) {
                Due.that("a sign of the source is " + (int) c, false);
            }
        }
    }

    private static final class Rules extends TreeScanner<Void, Void> {
        private final CompilationUnitTree unit;
        private final SourcePositions positions;
        private final Map<String, Set<String>> calls = new HashMap<>();
        private String method = "";
        private int methods = 0;

        Rules(CompilationUnitTree unit, SourcePositions positions) {
            this.unit = unit;
            this.positions = positions;
        }

        private void refuse(String rule, Tree tree) {
            long line = unit.getLineMap().getLineNumber(positions.getStartPosition(unit, tree));
            Due.that(rule + ", line " + line, false);
        }

        @Override
        public Void visitMethod(MethodTree tree, Void none) {
            LineMap lines = unit.getLineMap();
            long length = lines.getLineNumber(positions.getEndPosition(unit, tree))
                    - lines.getLineNumber(positions.getStartPosition(unit, tree)) + 1;
            Due.that("rule 11: lines of " + tree.getName(), length <= 60);
            Due.that("rule 11: parameters of " + tree.getName(), tree.getParameters().size() <= 7);
            methods++;
            String outer = method;
            method = tree.getName().toString();
            calls.computeIfAbsent(method, name -> new TreeSet<>());
            super.visitMethod(tree, none);
            method = outer;
            return null;
        }

        @Override
        public Void visitMethodInvocation(MethodInvocationTree tree, Void none) {
            String name = tree.getMethodSelect().toString();
            if (tree.getMethodSelect() instanceof MemberSelectTree select) {
                String of = select.getExpression().toString();
                if (Character.isUpperCase(of.charAt(0))) {
                    Due.that("rule 4: " + name, LIBRARY.contains(name));
                }
                name = select.getIdentifier().toString();
            }
            calls.computeIfAbsent(method, caller -> new TreeSet<>()).add(name);
            return super.visitMethodInvocation(tree, none);
        }

        /** Methods are told by name alone: names that stand in several classes only make it deeper. */
        void depths() {
            Due.that("methods were read", methods > 50);
            for (String name : calls.keySet()) {
                Due.that("rule 11: calls below " + name, depth(name, 0) <= 8);
            }
        }

        private int depth(String name, int above) {
            if (above > 20) {
                return 100;
            }
            int deepest = 0;
            for (String called : calls.getOrDefault(name, Set.of())) {
                deepest = Math.max(deepest, depth(called, above + 1));
            }
            return deepest + 1;
        }

        @Override
        public Void visitClass(ClassTree tree, Void none) {
            for (Tree member : tree.getMembers()) {
                if (member instanceof BlockTree) {
                    refuse("rule 5: an initialiser block", member);
                }
            }
            if (!method.isEmpty()) {
                refuse("rule 2: a class inside a method", tree);
            }
            return super.visitClass(tree, none);
        }

        @Override
        public Void visitVariable(VariableTree tree, Void none) {
            String type = String.valueOf(tree.getType());
            if (type.contains("[][][]") || type.contains("Object")) {
                refuse("rule 3: " + type, tree);
            }
            return super.visitVariable(tree, none);
        }

        @Override
        public Void visitNewClass(NewClassTree tree, Void none) {
            if (tree.getClassBody() != null) {
                refuse("rule 2: an anonymous class", tree);
            }
            if (!method.isEmpty() && !method.equals("<init>")) {
                refuse("an object made by a call", tree);
            }
            return super.visitNewClass(tree, none);
        }

        @Override
        public Void visitBinary(BinaryTree tree, Void none) {
            if (tree.toString().contains("\"")) {
                refuse("rule 10: texts joined by +", tree);
            }
            return super.visitBinary(tree, none);
        }

        @Override
        public Void visitImport(ImportTree tree, Void none) {
            refuse("rule 4: an import that the class does not need", tree);
            return null;
        }

        @Override
        public Void visitThrow(ThrowTree tree, Void none) {
            refuse("rule 6: throw", tree);
            return null;
        }

        @Override
        public Void visitTry(TryTree tree, Void none) {
            refuse("rule 6: try", tree);
            return null;
        }

        @Override
        public Void visitAssert(AssertTree tree, Void none) {
            refuse("rule 6: assert", tree);
            return null;
        }

        @Override
        public Void visitSynchronized(SynchronizedTree tree, Void none) {
            refuse("rule 6: synchronized", tree);
            return null;
        }

        @Override
        public Void visitLambdaExpression(LambdaExpressionTree tree, Void none) {
            refuse("rule 2: a lambda", tree);
            return null;
        }

        @Override
        public Void visitMemberReference(MemberReferenceTree tree, Void none) {
            refuse("rule 2: a method reference", tree);
            return null;
        }
    }
}
