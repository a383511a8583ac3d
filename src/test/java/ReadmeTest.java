import java.io.File;
import java.lang.reflect.Method;
import java.lang.reflect.Modifier;
import java.net.URL;
import java.net.URLClassLoader;
import java.nio.file.Files;
import java.nio.file.Path;
import java.util.ArrayList;
import java.util.List;
import java.util.Set;
import java.util.TreeSet;
import java.util.regex.Matcher;
import java.util.regex.Pattern;
import javax.tools.JavaCompiler;
import javax.tools.ToolProvider;

/**
 * README.md says how to use the class and how to run its tests. Its blocks of Java are made into one class, compiled
 * and run: each call that stands there must answer what stands behind its "//".
 */
public final class ReadmeTest {
    private static final Path README = Path.of("README.md");
    private static final Pattern CALL = Pattern.compile("(board\\.\\w+\\(.*\\)); // (-?\\d+|true|false|throws \\w+)(: .*)?");
    private static final Pattern PREPARES = Pattern.compile("SignBoard board = new SignBoard\\(\\);|tell\\(board, \".*\"\\);"
            + "|board\\.image\\(\\);");

    private final List<String> calls = new ArrayList<>();
    private final List<String> due = new ArrayList<>();
    private final StringBuilder members = new StringBuilder();
    private final StringBuilder statements = new StringBuilder();

    public static void main(String[] args) throws Exception {
        Check.due("README.md is there", Files.isRegularFile(README), true);
        String page = Files.readString(README);
        namesTheFace(page);
        namesTheTests(page);
        tellsHowToRunThem(page);
        ReadmeTest blocks = new ReadmeTest();
        blocks.collect(page);
        blocks.run();
        Check.finish();
    }

    // ---- what the page names

    private static void namesTheFace(String page) {
        for (Method m : SignBoard.class.getDeclaredMethods()) {
            if (Modifier.isPublic(m.getModifiers())) {
                Matcher told = Pattern.compile("`" + m.getName() + "\\(([^)]*)\\)`").matcher(page);
                boolean found = false;
                while (told.find()) {
                    int parameters = told.group(1).isEmpty() ? 0 : told.group(1).split(",").length;
                    found |= parameters == m.getParameterCount();
                }
                Check.due("README.md names " + m.getName() + " with its parameters", found, true);
            }
        }
    }

    private static void namesTheTests(String page) {
        Set<String> told = new TreeSet<>();
        Matcher rows = Pattern.compile("(?m)^\\| `(\\w+Test)` \\|").matcher(page);
        while (rows.find()) {
            told.add(rows.group(1));
        }
        Set<String> there = new TreeSet<>();
        for (File file : new File("src/test/java").listFiles()) {
            if (file.getName().endsWith("Test.java")) {
                there.add(file.getName().replace(".java", ""));
            }
        }
        Check.due("README.md tells of the tests " + there + " and of no other: " + told, told.equals(there), true);
    }

    private static void tellsHowToRunThem(String page) throws Exception {
        Check.due("README.md tells of .ci/run", page.contains("```sh\n.ci/run\n```"), true);
        Check.due(".ci/run can be executed", Files.isExecutable(Path.of(".ci/run")), true);
        String script = Files.readString(Path.of(".ci/run"));
        Check.due(".ci/run runs what ends in Test", script.contains("src/test/java/*Test.java"), true);
        Check.due(".ci/run runs ../shared/tests", script.contains("shared=../shared/tests"), true);
    }

    // ---- what the page shows

    private void collect(String page) {
        Matcher blocks = Pattern.compile("(?s)```java\n(.*?)```").matcher(page);
        while (blocks.find()) {
            String block = blocks.group(1);
            if (block.startsWith("static ")) {
                members.append(block);
            } else {
                for (String line : block.split("\n")) {
                    addLine(line);
                }
            }
        }
        Check.due("README.md shows some fifty calls", calls.size() >= 50, true);
    }

    private void addLine(String line) {
        Matcher call = CALL.matcher(line);
        if (call.matches()) {
            calls.add(call.group(1));
            due.add(call.group(2));
            statements.append("try { got.add(String.valueOf(").append(call.group(1)).append(")); }\n")
                    .append("catch (RuntimeException e) { got.add(\"throws \" + e.getClass().getSimpleName()); }\n");
        } else {
            Check.due("README.md's line \"" + line + "\" is a call with its answer, or prepares one",
                    PREPARES.matcher(line).matches(), true);
            statements.append(line).append('\n');
        }
    }

    private void run() throws Exception {
        Path folder = Files.createTempDirectory("readme");
        Path source = folder.resolve("ReadmeCalls.java");
        Path compiled = folder.resolve("ReadmeCalls.class");
        Files.writeString(source, "public final class ReadmeCalls {\n" + members
                + "public static void run(java.util.List<String> got) {\n" + statements + "}\n}\n");
        JavaCompiler compiler = ToolProvider.getSystemJavaCompiler();
        int code = compiler.run(null, null, null, "-cp", System.getProperty("java.class.path"), "-d", folder.toString(),
                source.toString());
        Check.due("README.md's blocks compile", code, 0);
        List<String> got = new ArrayList<>();
        if (code == 0) {
            try (URLClassLoader loader = new URLClassLoader(new URL[] {folder.toUri().toURL()})) {
                loader.loadClass("ReadmeCalls").getMethod("run", List.class).invoke(null, got);
            }
        }
        for (int i = 0; i < calls.size(); i++) {
            String answer = i < got.size() ? got.get(i) : "nothing";
            Check.due("README.md's " + calls.get(i) + " (" + answer + ", told there " + due.get(i) + ")",
                    answer.equals(due.get(i)), true);
        }
        Files.deleteIfExists(compiled);
        Files.deleteIfExists(source);
        Files.deleteIfExists(folder);
    }
}
