import java.io.IOException;
import java.lang.reflect.Method;
import java.lang.reflect.Modifier;
import java.net.URL;
import java.net.URLClassLoader;
import java.nio.file.Files;
import java.nio.file.Path;
import java.util.ArrayList;
import java.util.List;
import java.util.TreeSet;
import java.util.regex.Matcher;
import java.util.regex.Pattern;
import java.util.stream.Stream;
import javax.tools.JavaCompiler;
import javax.tools.ToolProvider;

/**
 * What README.md says and shows is so: its Java is compiled and run with the class, and each answer that stands behind a
 * call is the one that is given; it tells all calls, refusals and tests that there are, and no others.
 */
public final class ReadmeTest {
    private static final Due d = new Due();
    private static final Pattern ANSWERED = Pattern.compile("\\s*(\\S.*);\\s+// (-?\\d+|0b[01]+|[A-Z]+|\"[^\"]*\")(:.*)?");

    public static void main(String[] args) throws Exception {
        String page = Files.readString(Path.of("README.md"));
        shown(page);
        calls(page);
        refusals(page);
        tests(page);
        d.close();
    }

    public static void same(String line, long got, long want) {
        d.due(line, got, want);
    }

    public static void same(String line, String got, String want) {
        d.holds(line + " is " + got, got.equals(want));
    }

    private static List<String> blocks(String page, String language) {
        List<String> blocks = new ArrayList<>();
        Matcher m = Pattern.compile("(?s)```" + language + "\n(.*?)```").matcher(page);
        while (m.find()) blocks.add(m.group(1));
        return blocks;
    }

    private static void shown(String page) throws Exception {
        d.part("README.md, what it shows");
        StringBuilder code = new StringBuilder("public final class Shown { public static void main(String[] args) {\n");
        int answers = 0;
        for (String block : blocks(page, "java")) {
            code.append("{\n");
            for (String line : block.split("\n")) {
                Matcher m = ANSWERED.matcher(line);
                boolean isAnswered = m.matches();
                d.holds("behind a call stands its answer: " + line, isAnswered || !line.contains("//") && !line.startsWith("x."));
                if (isAnswered) answers++;
                code.append(isAnswered ? asked(line, m.group(1), m.group(2)) : line).append('\n');
            }
            code.append("}\n");
        }
        d.holds("it shows answers", answers > 30);
        runCode(code.append("} }\n").toString());
    }

    private static String asked(String line, String call, String answer) {
        String want = Character.isUpperCase(answer.charAt(0)) ? "ReadingStages." + answer : answer;
        String told = line.replace("\\", "\\\\").replace("\"", "\\\"");
        return "ReadmeTest.same(\"" + told + "\", " + call + ", " + want + ");";
    }

    private static void runCode(String code) throws Exception {
        Path dir = Files.createTempDirectory("readme");
        try {
            Path file = Files.writeString(dir.resolve("Shown.java"), code);
            JavaCompiler compiler = ToolProvider.getSystemJavaCompiler();
            String path = System.getProperty("java.class.path");
            int answer = compiler.run(null, null, null, "-d", dir.toString(), "-cp", path, file.toString());
            d.due("what is shown compiles", answer, 0);
            if (answer != 0) return;
            try (URLClassLoader loader = new URLClassLoader(new URL[] {dir.toUri().toURL()})) {
                loader.loadClass("Shown").getMethod("main", String[].class).invoke(null, (Object) new String[0]);
            }
        } finally {
            for (String name : new String[] {"Shown.java", "Shown.class"}) Files.deleteIfExists(dir.resolve(name));
            Files.deleteIfExists(dir);
        }
    }

    private static TreeSet<String> found(String page, String pattern) {
        TreeSet<String> found = new TreeSet<>();
        Matcher m = Pattern.compile(pattern).matcher(page);
        while (m.find()) found.add(m.group(1));
        return found;
    }

    private static void alike(String what, TreeSet<String> got, TreeSet<String> want) {
        d.holds(what + " are " + want + ", told are " + got, got.equals(want));
    }

    /** A row of the table for each call, with the names of the source. */
    private static void calls(String page) throws IOException {
        d.part("README.md, the calls");
        TreeSet<String> want = new TreeSet<>();
        String source = Files.readString(Path.of("src/main/java/ReadingStages.java"));
        Matcher m = Pattern.compile("(?m)^    public int (\\w+\\(.*\\)) \\{$").matcher(source);
        while (m.find()) want.add(m.group(1).replaceAll("\\b(int|long) ", ""));
        alike("the calls", found(page, "(?m)^\\| `(\\w+\\([^`]*\\))` \\|"), want);
        int methods = 0;
        for (Method method : ReadingStages.class.getDeclaredMethods()) {
            if (Modifier.isPublic(method.getModifiers())) methods++;
        }
        d.due("calls", want.size(), methods);
    }

    private static void refusals(String page) throws IllegalAccessException {
        d.part("README.md, the refusals");
        TreeSet<String> want = new TreeSet<>();
        for (var f : ReadingStages.class.getFields()) want.add("`" + f.getName() + "` " + f.getInt(null));
        alike("the refusals", found(page, "(?m)^\\| (`[A-Z]+` -\\d+) \\|"), want);
    }

    private static void tests(String page) throws IOException {
        d.part("README.md, the tests");
        TreeSet<String> want = new TreeSet<>();
        try (Stream<Path> files = Files.list(Path.of("src/test/java"))) {
            files.map(f -> f.getFileName().toString()).filter(f -> f.endsWith("Test.java"))
                .forEach(f -> want.add(f.replace(".java", "")));
        }
        alike("the tests", found(page, "`(\\w+Test)`"), want);
        for (String path : found(page, "(?:`|bash )((?:\\.\\./shared|src|\\.ci)/[\\w./]+)")) {
            d.holds("there is " + path, Files.exists(Path.of(path)));
        }
        for (String path : found(String.join("\n", blocks(page, "sh")), "[ :](src/[\\w./]+)")) {
            d.holds("there is " + path, Files.exists(Path.of(path)));
        }
        d.holds(".ci/run can be run", Files.isExecutable(Path.of(".ci/run")));
    }
}
