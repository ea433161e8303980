import java.lang.reflect.Constructor;
import java.lang.reflect.Field;
import java.lang.reflect.Member;
import java.lang.reflect.Method;
import java.lang.reflect.Modifier;
import java.nio.file.Files;
import java.nio.file.Path;
import java.util.ArrayList;
import java.util.HashSet;
import java.util.List;
import java.util.Set;
import java.util.TreeSet;
import java.util.regex.Matcher;
import java.util.regex.Pattern;
import java.util.stream.Collectors;
import java.util.stream.Stream;

/** Rules of LANGUAGE.md, as far as they can be seen from the source and the class. */
public final class LanguageTest {
    private static final Check CHECK = new Check();
    private static final Path SOURCE = Path.of("src/main/java/VerdictFirst.java");
    private static final Path DOCUMENT = Path.of("../shared/DOC.md");

    private LanguageTest() {
    }

    public static void main(String[] args) throws Exception {
        String source = Files.readString(SOURCE);
        String code = source.replaceAll("(?s)/\\*.*?\\*/", "").replaceAll("//[^\n]*", "");
        face();
        classes();
        words(code);
        methods(code);
        calls();
        CHECK.end();
    }

    private static String sign(Member member, Class<?>[] types, String answers) {
        String in = Stream.of(types).map(Class::getSimpleName).collect(Collectors.joining(", "));
        return answers + member.getName() + "(" + in + ")";
    }

    private static void face() throws Exception {
        CHECK.about("rule 1");
        Set<String> want = new TreeSet<>();
        Matcher line = Pattern.compile("public (\\w+ )?(\\w+)\\((.*?)\\);").matcher(Files.readString(DOCUMENT));
        while (line.find()) {
            String in = line.group(3).replaceAll("(\\w+) \\w+", "$1");
            want.add((line.group(1) == null ? "" : line.group(1)) + line.group(2) + "(" + in + ")");
        }
        Set<String> got = new TreeSet<>();
        Set<String> names = new HashSet<>();
        Class<?> type = VerdictFirst.class;
        for (Constructor<?> one : type.getDeclaredConstructors()) {
            got.add(sign(one, one.getParameterTypes(), ""));
        }
        for (Method one : type.getDeclaredMethods()) {
            if (!Modifier.isPrivate(one.getModifiers())) {
                got.add(sign(one, one.getParameterTypes(), one.getReturnType().getSimpleName() + " "));
                names.add(one.getName());
            }
        }
        CHECK.due("the face is " + got + ", due is " + want, got.equals(want), true);
        CHECK.due("how many", got.size(), 32);
        for (Class<?> each : allClasses()) {
            for (Method one : each.getDeclaredMethods()) {
                boolean hides = Modifier.isPrivate(one.getModifiers()) && names.contains(one.getName());
                CHECK.due("a private " + one.getName() + " of " + each.getSimpleName(), hides, false);
            }
        }
        for (Field one : type.getDeclaredFields()) {
            boolean seen = !Modifier.isPrivate(one.getModifiers());
            CHECK.due("a field that is seen: " + one.getName(), seen, one.getName().equals("NONE"));
        }
        CHECK.due("public and final", type.getModifiers(), Modifier.PUBLIC | Modifier.FINAL);
    }

    private static List<Class<?>> allClasses() {
        List<Class<?>> all = new ArrayList<>(List.of(VerdictFirst.class.getDeclaredClasses()));
        all.add(VerdictFirst.class);
        return all;
    }

    private static void classes() {
        CHECK.about("rules 2, 5 and 11");
        List<Class<?>> all = allClasses();
        CHECK.due("classes", all.size() <= 12, true);
        for (Class<?> type : all) {
            boolean nested = type == VerdictFirst.class || Modifier.isStatic(type.getModifiers());
            CHECK.due(type.getSimpleName() + " is static", nested, true);
            int fields = 0;
            for (Field one : type.getDeclaredFields()) {
                boolean isStatic = Modifier.isStatic(one.getModifiers());
                CHECK.due("a static that can change: " + one.getName(), isStatic && !Modifier.isFinal(one.getModifiers()), false);
                fields += isStatic ? 0 : 1;
            }
            CHECK.due("fields of " + type.getSimpleName(), fields <= 20, true);
        }
    }

    private static void words(String code) {
        CHECK.about("rules 4 and 6");
        String[] banned = {"\\bthrow\\b", "\\bthrows\\b", "\\btry\\b", "\\bcatch\\b", "\\bfinally\\b", "\\bsynchronized\\b",
            "\\bassert\\b", "->", "::", "\\bimport\\b", "\\bpackage\\b", "\\bObject\\b", "\\bequals\\b", "\\bhashCode\\b",
            "\\btoString\\b", "Exact\\b", "@", "\\bdouble\\b", "\\bfloat\\b", "static \\{", "\\bvar\\b", "\\[\\]\\[\\]"};
        for (String one : banned) {
            CHECK.due(one, Pattern.compile(one).matcher(code).find(), false);
        }
        Matcher call = Pattern.compile("\\b(System|Math|Integer|Long|Arrays|String)\\.(\\w+)").matcher(code);
        Set<String> free = Set.of("System.arraycopy", "Math.max", "Math.min", "Integer.bitCount");
        while (call.find()) {
            CHECK.due(call.group(), free.contains(call.group()), true);
        }
    }

    private static void methods(String code) {
        CHECK.about("rules 11 and 12");
        Matcher head = Pattern.compile("(?m)^( +)(?:public|private)[^=;{}]*?(\\w+)\\(([^)]*)\\) \\{$").matcher(code);
        int many = 0;
        while (head.find()) {
            many++;
            int end = code.indexOf("\n" + head.group(1) + "}", head.end());
            String body = code.substring(head.end(), end);
            int parameters = head.group(3).isEmpty() ? 0 : head.group(3).split(",").length;
            CHECK.due("lines of " + head.group(2), body.split("\n").length <= 60, true);
            CHECK.due("parameters of " + head.group(2), parameters <= 7, true);
            boolean makes = Pattern.compile("\\bnew\\b").matcher(body).find();
            CHECK.due("makes objects: " + head.group(2), makes, head.group(2).equals("VerdictFirst"));
        }
        CHECK.due("methods that were seen", many > 100, true);
    }

    private static void calls() throws Exception {
        CHECK.about("rules 8 and 11");
        Calls calls = new Calls(SOURCE);
        List<String> way = calls.longestWay();
        CHECK.due("a way of calls that is too long, " + way, way.size() <= 8, true);
        CHECK.due("a way of calls that is too short to be all, " + way, way.size() >= 6, true);
        for (String one : calls.recursive()) {
            // The depth is carried as an argument.
            CHECK.due("recursion without a depth: " + one, one.endsWith("(int)"), true);
        }
        CHECK.due("methods whose calls were seen", calls.methods().size() > 100, true);
    }
}
