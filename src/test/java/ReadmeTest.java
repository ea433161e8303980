import java.io.IOException;
import java.io.PrintWriter;
import java.io.StringWriter;
import java.lang.reflect.Method;
import java.lang.reflect.Modifier;
import java.net.URL;
import java.net.URLClassLoader;
import java.nio.file.Files;
import java.nio.file.Path;
import java.util.ArrayList;
import java.util.List;
import java.util.Set;
import java.util.TreeSet;
import java.util.regex.Matcher;
import java.util.regex.Pattern;
import java.util.stream.Collectors;
import java.util.stream.Stream;
import javax.tools.ToolProvider;

/** README.md: its example answers as it says there, and it names every call and every test of the project. */
public final class ReadmeTest {
    private static final Check CHECK = new Check();
    private static final Path README = Path.of("README.md");
    // A statement, with what it answers behind it: a number or true, ahead of a colon or a semicolon or alone.
    private static final Pattern TOLD = Pattern.compile(
            "^(?:(int \\w+) = )?(court\\.\\w+\\(.*\\)); +// (-?\\d+|true|false)(?:[:;].*)?$");

    private ReadmeTest() {
    }

    public static void main(String[] args) throws Exception {
        String page = Files.readString(README);
        example(page);
        calls(page);
        tests(page);
        CHECK.end();
    }

    private static String exampleOf(String page) {
        Matcher block = Pattern.compile("(?s)```java\n(.*?)```").matcher(page);
        CHECK.due("an example", block.find(), true);
        return block.group(1);
    }

    /** The example as the body of a method that gives back, for each line, what it answered. */
    private static void example(String page) throws Exception {
        CHECK.about("the example");
        List<String> lines = new ArrayList<>();
        List<String> want = new ArrayList<>();
        StringBuilder body = new StringBuilder();
        for (String line : exampleOf(page).split("\n")) {
            Matcher told = TOLD.matcher(line);
            if (told.matches()) {
                lines.add(line);
                want.add(told.group(3));
                body.append(noted(told.group(1), told.group(2)));
            } else {
                CHECK.due("a call whose answer isn't told: " + line, line.startsWith("court."), false);
                body.append(line);
            }
            body.append('\n');
        }
        List<?> got = run(body.toString());
        CHECK.due("lines", got.size(), want.size());
        CHECK.due("lines with an answer", want.size() > 10, true);
        for (int i = 0; i < got.size() && i < want.size(); i++) {
            CHECK.due(lines.get(i) + " answered " + got.get(i), got.get(i).equals(want.get(i)), true);
        }
    }

    /** The statement, with its answer put behind the others; what it declares, if anything, is as "int anna". */
    private static String noted(String declared, String call) {
        if (declared == null) {
            return "got.add(String.valueOf(" + call + "));";
        }
        String name = declared.substring("int ".length());
        return declared + " = " + call + "; got.add(String.valueOf(" + name + "));";
    }

    private static List<?> run(String body) throws Exception {
        Path work = Files.createTempDirectory("readme");
        Path source = work.resolve("Example.java");
        Files.writeString(source, "public class Example { public static java.util.List<String> run() {\n"
                + "java.util.List<String> got = new java.util.ArrayList<>();\n" + body + "return got; } }\n");
        StringWriter said = new StringWriter();
        int exit = compile(work, source, said);
        CHECK.due("the example compiles: " + said, exit, 0);
        if (exit != 0) {
            return List.of();
        }
        try (URLClassLoader loader = new URLClassLoader(new URL[] {work.toUri().toURL()})) {
            return (List<?>) loader.loadClass("Example").getMethod("run").invoke(null);
        } finally {
            Files.deleteIfExists(work.resolve("Example.class"));
            Files.deleteIfExists(source);
            Files.deleteIfExists(work);
        }
    }

    private static int compile(Path work, Path source, StringWriter said) throws IOException {
        String classes = System.getProperty("java.class.path");
        List<String> options = List.of("-proc:none", "-cp", classes, "-d", work.toString());
        var compiler = ToolProvider.getSystemJavaCompiler();
        try (var files = compiler.getStandardFileManager(null, null, null)) {
            boolean fine = compiler.getTask(new PrintWriter(said), files, null, options, null,
                    files.getJavaFileObjects(source)).call();
            return fine ? 0 : 1;
        }
    }

    private static Set<String> named(String page, String head) {
        Set<String> names = new TreeSet<>();
        boolean inside = false;
        for (String line : page.split("\n")) {
            inside = line.startsWith(head) || inside && line.startsWith("|");
            if (inside && line.startsWith("| `")) {
                Matcher name = Pattern.compile("`(\\w+)`").matcher(line.substring(0, line.indexOf('|', 1)));
                while (name.find()) {
                    names.add(name.group(1));
                }
            }
        }
        return names;
    }

    private static void calls(String page) {
        CHECK.about("the calls");
        Set<String> got = named(page, "| calls |");
        Set<String> want = new TreeSet<>();
        for (Method one : VerdictFirst.class.getDeclaredMethods()) {
            if (Modifier.isPublic(one.getModifiers())) {
                want.add(one.getName());
            }
        }
        CHECK.due("named are " + got + ", there are " + want, got.equals(want), true);
    }

    private static void tests(String page) throws IOException {
        CHECK.about("the tests");
        Set<String> got = named(page, "| test |");
        Set<String> want = namesUnder(Path.of("src/test/java"), "Test.java");
        CHECK.due("named are " + got + ", there are " + want, got.equals(want), true);
        CHECK.due("how they are run", page.contains("\n.ci/run\n"), true);
    }

    private static Set<String> namesUnder(Path folder, String end) throws IOException {
        try (Stream<Path> files = Files.list(folder)) {
            return files.map(file -> file.getFileName().toString()).filter(name -> name.endsWith(end))
                    .map(name -> name.substring(0, name.length() - ".java".length())).collect(Collectors.toSet());
        }
    }
}
