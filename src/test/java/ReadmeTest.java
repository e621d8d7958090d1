import java.io.IOException;
import java.lang.reflect.Method;
import java.lang.reflect.Modifier;
import java.net.URL;
import java.net.URLClassLoader;
import java.nio.file.DirectoryStream;
import java.nio.file.Files;
import java.nio.file.Path;
import java.util.ArrayList;
import java.util.Collections;
import java.util.List;
import java.util.TreeSet;
import java.util.regex.Matcher;
import java.util.regex.Pattern;
import javax.tools.JavaCompiler;
import javax.tools.ToolProvider;

/** README.md says how to use the class and how to run its tests, and what it shows is so. */
public final class ReadmeTest {
    private static final Pattern BLOCK = Pattern.compile("(?s)```(java|text)\n(.*?)```");
    private static final Pattern ANSWER = Pattern.compile("(?m)^(x\\.\\w+\\(.*?\\));\\s+// (-?\\d+|true|false)\\b.*$");

    private static int wrong = 0;

    private static void hold(boolean holds, String what) {
        if (!holds) {
            wrong++;
            System.out.println("README.md: " + what);
        }
    }

    private static String chapter(String page, String name) {
        Matcher m = Pattern.compile("(?ms)^## " + name + "\n(.*?)(?=^## |\\z)").matcher(page);
        boolean found = m.find();
        hold(found, "no chapter '" + name + "'");
        return found ? m.group(1) : "";
    }

    /** Each call of the face stands in the chapter with as many arguments as it has, and no other does. */
    private static void namesEachCall(String use) {
        TreeSet<String> due = new TreeSet<>();
        for (Method m : PenTrails.class.getDeclaredMethods()) {
            if (Modifier.isPublic(m.getModifiers())) {
                due.add(m.getName() + " " + m.getParameterCount());
            }
        }
        TreeSet<String> named = new TreeSet<>();
        Matcher m = Pattern.compile("(?m)`([a-z]+)\\(([a-z, ]*)\\)`").matcher(use);
        while (m.find()) {
            named.add(m.group(1) + " " + (m.group(2).isEmpty() ? 0 : m.group(2).split(", ").length));
        }
        hold(named.equals(due), "the calls that it names are " + named + ", but there are " + due);
    }

    private static void namesEachTest(String tests) throws IOException {
        hold(tests.contains("    .ci/run\n"), "it does not say that .ci/run runs the tests");
        hold(Files.isExecutable(Path.of(".ci/run")), ".ci/run can't be run");
        hold(tests.contains("`../shared/tests`") && tests.contains("`src/test/java`"), "it does not say where the tests are");
        TreeSet<String> due = new TreeSet<>();
        try (DirectoryStream<Path> files = Files.newDirectoryStream(Path.of("src/test/java"), "*.java")) {
            for (Path file : files) {
                due.add(file.getFileName().toString().replace(".java", ""));
            }
        }
        TreeSet<String> named = new TreeSet<>();
        Matcher m = Pattern.compile("(?m)^\\| `(\\w+)` \\|").matcher(tests);
        while (m.find()) {
            named.add(m.group(1));
        }
        hold(named.equals(due), "the tests that it names are " + named + ", but there are " + due);
    }

    private static List<String> blocks(String use, String kind) {
        List<String> found = new ArrayList<>();
        Matcher m = BLOCK.matcher(use);
        while (m.find()) {
            if (m.group(1).equals(kind)) {
                found.add(m.group(2));
            }
        }
        return found;
    }

    /** The calls that are shown, then the drawing that is shown, read by the method that is shown. */
    private static String program(String calls, String method, String drawing) {
        Matcher answers = ANSWER.matcher(calls);
        return "public final class Shown {\n"
            + "static void told(java.util.List<String> answers, String call, Object got, String due) {\n"
            + "answers.add(String.valueOf(got).equals(due) ? null : call + \" answers \" + got + \", not \" + due);\n}\n"
            + method
            + "public static void run(java.util.List<String> answers) {\n"
            + answers.replaceAll("told(answers, \"$1\", $1, \"$2\");")
            + "told(answers, \"the drawing\", read(new PenTrails(), \"" + drawing.strip() + "\"), \"3\");\n}\n}\n";
    }

    private static void runs(String use) throws IOException, ReflectiveOperationException {
        List<String> code = blocks(use, "java");
        List<String> drawings = blocks(use, "text");
        if (code.size() != 2 || drawings.size() != 1) {
            hold(false, "it shows " + code.size() + " pieces of code and " + drawings.size() + " drawings, not 2 and 1");
            return;
        }
        Path dir = Files.createTempDirectory("readme");
        Path source = Files.writeString(dir.resolve("Shown.java"), program(code.get(0), code.get(1), drawings.get(0)));
        JavaCompiler javac = ToolProvider.getSystemJavaCompiler();
        String classes = System.getProperty("java.class.path");
        boolean compiled = javac.run(null, null, null, "-cp", classes, "-d", dir.toString(), source.toString()) == 0;
        hold(compiled, "what it shows does not compile");
        if (compiled) {
            List<String> answers = new ArrayList<>();
            try (URLClassLoader loader = new URLClassLoader(new URL[] {dir.toUri().toURL()})) {
                loader.loadClass("Shown").getMethod("run", List.class).invoke(null, answers);
            }
            hold(answers.size() > 10, "it tells the answers of " + answers.size() + " calls alone");
            answers.removeAll(Collections.singleton(null));
            hold(answers.isEmpty(), "not as it says: " + answers);
        }
        for (String name : new String[] {"Shown.java", "Shown.class"}) {
            Files.deleteIfExists(dir.resolve(name));
        }
        Files.deleteIfExists(dir);
    }

    public static void main(String[] args) throws IOException, ReflectiveOperationException {
        Path file = Path.of("README.md");
        hold(Files.isRegularFile(file), "it is not there");
        String page = Files.isRegularFile(file) ? Files.readString(file) : "";
        String use = chapter(page, "Use");
        namesEachCall(use);
        namesEachTest(chapter(page, "Tests"));
        runs(use);
        System.out.println(wrong == 0 ? "README.md says what it must" : wrong + " things in README.md are not so");
        if (wrong != 0) {
            System.exit(1);
        }
    }
}
