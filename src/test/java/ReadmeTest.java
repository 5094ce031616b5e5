import java.io.StringWriter;
import java.net.URI;
import java.net.URL;
import java.net.URLClassLoader;
import java.nio.file.Files;
import java.nio.file.Path;
import java.util.ArrayList;
import java.util.Comparator;
import java.util.LinkedHashMap;
import java.util.List;
import java.util.Map;
import java.util.Set;
import java.util.TreeSet;
import java.util.regex.Matcher;
import java.util.regex.Pattern;
import java.util.stream.Stream;
import javax.tools.JavaCompiler;
import javax.tools.JavaFileObject;
import javax.tools.SimpleJavaFileObject;
import javax.tools.ToolProvider;

/** What README.md shows of the use of the class compiles and answers as README.md says. */
public final class ReadmeTest {
    private static final Path README = Path.of("README.md");
    private static final Path DOCUMENT = Path.of("../shared/DOC.md");
    private static final Path TESTS = Path.of("src/test/java");
    private static final Pattern BEGINS = Pattern.compile("HoursDesk \\w+ = new HoursDesk\\(\\);");
    /** A call, perhaps kept under a name; then its answer, a number or a finding's name; then why. */
    private static final Pattern CALL =
            Pattern.compile("(?:int (\\w+) = )?(\\w+\\.(\\w+)\\([^;]*\\));\\s+// (-?\\d+|[A-Z]+): \\S.*");
    private static final String FINDING = "BEYOND|MISSING|SIZE|KIND|FULL|NONE";

    private static String readme = "";
    private static String document = "";

    /** A line of README.md with a call, and the answer that stands behind it. */
    private record Shown(int line, String text, int answer) {
    }

    /** The program that README.md's blocks are, as a source that keeps each call's answer. */
    private static final class Program extends SimpleJavaFileObject {
        final List<Shown> shown = new ArrayList<>();
        final Set<String> called = new TreeSet<>();
        final Set<String> findings = new TreeSet<>();
        private final StringBuilder body = new StringBuilder();

        Program() {
            super(URI.create("string:///ReadmeUse.java"), JavaFileObject.Kind.SOURCE);
        }

        void add(int line, String text, Map<String, Integer> numbers) {
            if (text.isBlank() || BEGINS.matcher(text).matches()) {
                body.append(text).append('\n');
                return;
            }
            Matcher call = CALL.matcher(text);
            Due.that("README.md, line " + line + ": a call with its answer and why: " + text, call.matches());
            if (!call.matches()) {
                return;
            }
            String kept = call.group(1) == null ? "answer" + line : call.group(1);
            body.append("int ").append(kept).append(" = ").append(call.group(2)).append(";\n");
            body.append("answers.add(").append(kept).append(");\n");
            called.add(call.group(3));
            shown.add(new Shown(line, text, answerOf(line, call.group(4), numbers)));
        }

        private int answerOf(int line, String word, Map<String, Integer> numbers) {
            if (!word.matches("[A-Z]+")) {
                return Integer.parseInt(word);
            }
            findings.add(word);
            Due.that("README.md, line " + line + ": a finding: " + word, numbers.containsKey(word));
            return numbers.getOrDefault(word, 0);
        }

        @Override
        public CharSequence getCharContent(boolean ignoreErrors) {
            return "public final class ReadmeUse {\npublic static void use(java.util.List<Integer> answers) {\n" + body
                    + "}\n}\n";
        }
    }

    public static void main(String[] args) throws Exception {
        readme = Files.readString(README);
        document = Files.readString(DOCUMENT);
        use();
        findings();
        allCalls();
        tests();
        Due.end();
    }

    private static Map<String, Integer> findingsIn(String text) {
        Map<String, Integer> numbers = new LinkedHashMap<>();
        Matcher finding = Pattern.compile("(-\\d{6}) ([A-Z]+)").matcher(text);
        while (finding.find()) {
            numbers.put(finding.group(2), Integer.valueOf(finding.group(1)));
        }
        return numbers;
    }

    private static Program program() {
        Program program = new Program();
        Map<String, Integer> numbers = findingsIn(readme);
        boolean inside = false;
        int line = 0;
        for (String text : readme.split("\n")) {
            line++;
            if (text.startsWith("```")) {
                inside = text.equals("```java");
            } else if (inside) {
                program.add(line, text, numbers);
            }
        }
        return program;
    }

    private static void use() throws Exception {
        Program program = program();
        List<Integer> answers = answersOf(program);
        Due.is("README.md: calls that answered", answers.size(), program.shown.size());
        for (int i = 0; i < Math.min(answers.size(), program.shown.size()); i++) {
            Shown shown = program.shown.get(i);
            Due.is("README.md, line " + shown.line + ": " + shown.text, answers.get(i), shown.answer);
        }
        Due.that("README.md shows the use of every call: " + program.called,
                program.called.equals(new TreeSet<>(namesOf(face()))));
        Due.that("README.md shows every finding: " + program.findings,
                program.findings.equals(new TreeSet<>(findingsIn(document).keySet())));
    }

    private static List<Integer> answersOf(Program program) throws Exception {
        List<Integer> answers = new ArrayList<>();
        Path out = Files.createTempDirectory("readme");
        try {
            JavaCompiler compiler = ToolProvider.getSystemJavaCompiler();
            StringWriter said = new StringWriter();
            boolean compiles = compiler.getTask(said, null, null,
                    List.of("-cp", System.getProperty("java.class.path"), "-d", out.toString()), null,
                    List.of(program)).call();
            Due.that("README.md's blocks compile: " + said, compiles);
            if (compiles) {
                run(out, answers);
            }
        } finally {
            remove(out);
        }
        return answers;
    }

    private static void run(Path out, List<Integer> answers) throws Exception {
        URL[] where = {out.toUri().toURL()};
        try (URLClassLoader loader = new URLClassLoader(where, ReadmeTest.class.getClassLoader())) {
            loader.loadClass("ReadmeUse").getMethod("use", List.class).invoke(null, answers);
        }
    }

    private static void remove(Path directory) throws Exception {
        try (Stream<Path> paths = Files.walk(directory)) {
            for (Path path : paths.sorted(Comparator.reverseOrder()).toList()) {
                Files.delete(path);
            }
        }
    }

    private static void findings() {
        Due.that("README.md's findings: " + findingsIn(readme), findingsIn(readme).equals(findingsIn(document)));
    }

    /** The document's calls with the names of their arguments, in its order. */
    private static List<String> face() {
        List<String> calls = new ArrayList<>();
        Matcher call = Pattern.compile("(?m)^    public int (\\w+\\([^)]*\\));$").matcher(document);
        while (call.find()) {
            calls.add(call.group(1).replaceAll("(int|boolean) ", ""));
        }
        return calls;
    }

    private static List<String> namesOf(List<String> calls) {
        List<String> names = new ArrayList<>();
        for (String call : calls) {
            names.add(call.substring(0, call.indexOf('(')));
        }
        return names;
    }

    /** The findings of a call's promise, in its order: those with which a sentence begins. */
    private static String findingsOf(String name) {
        Matcher promise = Pattern.compile("(?m)^## Promise \\d+: " + name + "\n+`[^`]*`: (.*)$").matcher(document);
        List<String> found = new ArrayList<>();
        if (promise.find()) {
            Matcher finding = Pattern.compile("(?<=\\. )(" + FINDING + ")(?=[:. ])").matcher(promise.group(1));
            while (finding.find()) {
                found.add(finding.group(1));
            }
        }
        return String.join(", ", found);
    }

    private static void allCalls() {
        List<String> listed = new ArrayList<>();
        Matcher row = Pattern.compile("(?m)^\\| `([^`]+)` \\| [^|]+ \\| ([^|]*) \\|$").matcher(readme);
        while (row.find()) {
            String name = row.group(1).substring(0, row.group(1).indexOf('('));
            listed.add(row.group(1));
            String due = findingsOf(name);
            Due.that("README.md's findings of " + name + " are " + row.group(2) + ", due are " + due,
                    row.group(2).equals(due) && !due.isEmpty());
        }
        Due.that("README.md lists the calls " + listed + ", due are " + face(), listed.equals(face()));
        Due.is("README.md lists calls", listed.size(), 32);
    }

    private static void tests() throws Exception {
        Set<String> there = new TreeSet<>();
        try (Stream<Path> files = Files.list(TESTS)) {
            for (Path file : files.toList()) {
                String name = file.getFileName().toString().replace(".java", "");
                there.add(name);
                Due.that("README.md names " + name, readme.contains("`" + name + "`"));
            }
        }
        Matcher named = Pattern.compile("`(\\w+Test)`").matcher(readme);
        while (named.find()) {
            Due.that("there is a " + named.group(1), there.contains(named.group(1)));
        }
    }
}
