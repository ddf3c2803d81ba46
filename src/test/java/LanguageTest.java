import java.lang.reflect.Constructor;
import java.lang.reflect.Field;
import java.lang.reflect.Method;
import java.lang.reflect.Modifier;
import java.nio.file.Files;
import java.nio.file.Path;
import java.util.ArrayList;
import java.util.Arrays;
import java.util.List;
import java.util.Map;
import java.util.TreeMap;
import java.util.TreeSet;
import java.util.regex.Matcher;
import java.util.regex.Pattern;

/** The document's face, and of LANGUAGE.md what can be looked at in the classes and in the source's text. */
public final class LanguageTest {
    private static final Due d = new Due();

    public static void main(String[] args) throws Exception {
        face();
        constants();
        staticState();
        names();
        sizes();
        text();
        bodies();
        d.close();
    }

    private static String signature(Method m) {
        StringBuilder s = new StringBuilder(m.getReturnType().getSimpleName()).append(' ').append(m.getName()).append('(');
        for (Class<?> p : m.getParameterTypes()) {
            s.append(p.getSimpleName()).append(' ');
        }
        return s.append(')').toString();
    }

    private static void face() {
        d.part("the face");
        int i3 = 3, i1 = 1, i2 = 2, i0 = 0;
        Object[][] want = {{"book", i1}, {"words", i2}, {"lose", i1}, {"ahead", i2}, {"prior", i1}, {"tell", i2},
            {"move", i2}, {"settle", i1}, {"place", i2}, {"word", i2}, {"told", i2}, {"count", i1}, {"best", i1},
            {"many", i1}, {"fit", i1}, {"kept", i3}, {"letter", i1}, {"type", i1}, {"read", i0}, {"drift", i1},
            {"undo", i0}, {"seed", i1}, {"image", i0}, {"restore", i0}, {"seen", i3}, {"film", i3}, {"sheet", i3},
            {"drop", i1}, {"copy", 5}};
        TreeSet<String> due = new TreeSet<>();
        for (Object[] w : want) {
            due.add("int " + w[0] + "(" + "int ".repeat((Integer) w[1]) + ")");
        }
        due.add("int item(int int int long )");
        TreeSet<String> got = new TreeSet<>();
        for (Method m : ReadingStages.class.getDeclaredMethods()) {
            if (Modifier.isPrivate(m.getModifiers()) || m.isSynthetic()) {
                continue;
            }
            d.holds(m + " is public and no static one", Modifier.isPublic(m.getModifiers()) && !Modifier.isStatic(m.getModifiers()));
            got.add(signature(m));
        }
        d.holds("the methods are " + due + ", not " + got, due.equals(got));
        d.due("methods", got.size(), 30);
        Constructor<?>[] made = ReadingStages.class.getDeclaredConstructors();
        d.due("constructors", made.length, 1);
        d.holds("public, without arguments", Modifier.isPublic(made[0].getModifiers()) && made[0].getParameterCount() == 0);
        int mods = ReadingStages.class.getModifiers();
        d.holds("public and final", Modifier.isPublic(mods) && Modifier.isFinal(mods));
    }

    private static void constants() throws Exception {
        d.part("the constants");
        Object[][] want = {{"BAD", -1}, {"NOT", -2}, {"FULL", -3}, {"NONE", -4}, {"NULL", -11}, {"CAST", -12},
            {"INDEX", -13}, {"SIZE", -14}};
        int seen = 0;
        for (Field f : ReadingStages.class.getDeclaredFields()) {
            if (!Modifier.isPrivate(f.getModifiers())) {
                seen++;
            }
        }
        d.due("fields that are not private", seen, want.length);
        for (Object[] w : want) {
            Field f = ReadingStages.class.getField((String) w[0]);
            d.due((String) w[0], f.getInt(null), (Integer) w[1]);
            d.holds(w[0] + " is final", Modifier.isFinal(f.getModifiers()));
        }
    }

    private static List<Class<?>> classes() {
        List<Class<?>> all = new ArrayList<>(Arrays.asList(ReadingStages.class.getDeclaredClasses()));
        all.add(0, ReadingStages.class);
        return all;
    }

    private static void staticState() {
        d.part("rules 2, 5");
        for (Class<?> c : classes()) {
            d.holds(c + " is static", c == ReadingStages.class || Modifier.isStatic(c.getModifiers()));
            for (Field f : c.getDeclaredFields()) {
                if (Modifier.isStatic(f.getModifiers())) {
                    d.holds(f + " is final", Modifier.isFinal(f.getModifiers()));
                    d.holds(f + " is a constant", f.getType() == int.class || f.getType() == String.class);
                }
            }
        }
    }

    private static void names() {
        d.part("rule 1");
        TreeSet<String> face = new TreeSet<>();
        for (Method m : ReadingStages.class.getDeclaredMethods()) {
            if (Modifier.isPublic(m.getModifiers())) {
                face.add(m.getName());
            }
        }
        for (Class<?> c : classes()) {
            for (Method m : c.getDeclaredMethods()) {
                boolean ofFace = c == ReadingStages.class && Modifier.isPublic(m.getModifiers());
                d.holds(m + " bears no name of the face", ofFace || !face.contains(m.getName()));
            }
        }
    }

    private static void sizes() {
        d.part("rule 11");
        d.holds("at most twelve classes", classes().size() <= 12);
        for (Class<?> c : classes()) {
            int fields = 0;
            for (Field f : c.getDeclaredFields()) {
                if (!Modifier.isStatic(f.getModifiers())) {
                    fields++;
                }
            }
            d.holds(c + " has at most twenty fields", fields <= 20);
            for (Method m : c.getDeclaredMethods()) {
                d.holds(m + " takes at most seven", m.getParameterCount() <= 7);
            }
        }
    }

    private static void text() throws Exception {
        d.part("rules 4, 6, 13");
        String source = Files.readString(Path.of("src/main/java/ReadingStages.java"));
        String code = source.replaceAll("(?s)/\\*.*?\\*/", "").replaceAll("//[^\n]*", "");
        for (String word : new String[] {"throw", "throws", "try", "catch", "synchronized", "assert", "import", "package",
            "instanceof", "->", "::", "Exact", "hashCode", "toString", "equals", "Object", "Thread", "Random"}) {
            String pattern = Character.isLetter(word.charAt(0)) ? "\\b\\w*" + word + "\\b" : Pattern.quote(word);
            d.holds("no " + word, !Pattern.compile(pattern).matcher(code).find());
        }
        TreeSet<String> library = new TreeSet<>(List.of("System.arraycopy", "Integer.bitCount", "Math.max"));
        Matcher calls = Pattern.compile("\\b(System|Integer|Long|Math|Arrays|Character|Byte|Short)\\.\\w+").matcher(code);
        while (calls.find()) {
            d.holds(calls.group() + " is allowed", library.contains(calls.group()));
        }
        for (char c : source.toCharArray()) {
            if (c > 126) {
                d.holds("the sign " + (int) c + " is plain", false);
            }
        }
    }

    /** A method or constructor of the source: those of one name are taken as one. */
    private record Body(String name, boolean isConstructor, String text) { }

    private static List<Body> bodiesOf(String code) {
        List<Body> bodies = new ArrayList<>();
        Matcher m = Pattern.compile("(?m)^( {4}| {8})((?:\\w+(?:\\[\\])* )*)(\\w+)\\([^)]*\\) \\{$").matcher(code);
        while (m.find()) {
            int end = code.indexOf("\n" + m.group(1) + "}\n", m.end());
            boolean isConstructor = Character.isUpperCase(m.group(3).charAt(0));
            bodies.add(new Body(m.group(3), isConstructor, code.substring(m.end(), end)));
        }
        return bodies;
    }

    /** How many calls stand open at once below a name, itself counted; the one recursion is counted once. */
    private static int depth(String name, Map<String, TreeSet<String>> calls, List<String> open) {
        d.holds(name + " is not called by way of " + open, !open.contains(name));
        if (open.contains(name)) return 0;
        open.add(name);
        int deepest = 0;
        for (String next : calls.get(name)) {
            if (!next.equals(name)) deepest = Math.max(deepest, depth(next, calls, open));
        }
        open.remove(name);
        return deepest + 1;
    }

    private static void bodies() throws Exception {
        String source = Files.readString(Path.of("src/main/java/ReadingStages.java"));
        List<Body> bodies = bodiesOf(source.replaceAll("(?s)/\\*.*?\\*/", "").replaceAll("//[^\n]*", ""));
        int declared = 0;
        for (Class<?> c : classes()) {
            for (Method m : c.getDeclaredMethods()) declared += m.isSynthetic() ? 0 : 1;
        }
        Map<String, TreeSet<String>> calls = new TreeMap<>();
        for (Body body : bodies) {
            declared -= body.isConstructor ? 0 : 1;
            calls.put(body.name, new TreeSet<>());
        }
        d.part("rules 8, 9, 11, 12");
        d.due("methods that were not found in the source", declared, 0);
        for (Body body : bodies) {
            d.holds(body.name + " has at most sixty lines", body.text.split("\n").length <= 60);
            d.holds(body.name + " makes nothing", body.isConstructor || !body.text.contains("new "));
            d.holds(body.name + " has no loop without a bound", !body.text.matches("(?s).*\\b(while \\(true|for \\(;;|do \\{).*"));
            Matcher m = Pattern.compile("\\b(\\w+)\\(").matcher(body.text);
            while (m.find()) {
                if (calls.containsKey(m.group(1))) calls.get(body.name).add(m.group(1));
            }
            boolean isOne = body.name.equals("goThrough") || body.name.equals("takeFrom");
            d.holds(body.name + " does not call itself", isOne || !calls.get(body.name).contains(body.name));
        }
        for (String name : calls.keySet()) {
            int depth = depth(name, calls, new ArrayList<>());
            d.holds(name + " goes " + depth + " calls deep, eight at most", depth <= 8);
        }
    }
}
