import java.io.IOException;
import java.lang.reflect.Modifier;
import java.nio.file.Files;
import java.nio.file.Path;
import java.util.ArrayList;
import java.util.List;
import java.util.regex.Matcher;
import java.util.regex.Pattern;

/** "The public face" and what the interface says ahead of its calls, taken from the document line by line. */
public final class FaceTest {
    private static final Due d = new Due();

    public static void main(String[] args) throws IOException {
        String document = Files.readString(Path.of("../shared/DOC.md"));
        String source = Files.readString(Path.of("src/main/java/ReadingStages.java"));
        face(faceOf(document), source);
        parts(document, source);
        objectsAreApart();
        d.close();
    }

    private static List<String> faceOf(String document) {
        Matcher block = Pattern.compile("(?s)## The public face\\s+```java\n(.*?)```").matcher(document);
        d.part("The public face");
        d.holds("the document tells it", block.find());
        List<String> lines = new ArrayList<>();
        for (String line : block.group(1).split("\n")) {
            if (line.startsWith("    ")) lines.add(line);
        }
        d.holds("it has lines", lines.size() > 30);
        return lines;
    }

    /** Each line of the face stands in the source with a body, in this order; nothing else there is public. */
    private static void face(List<String> lines, String source) {
        int at = 0;
        for (String line : lines) {
            boolean isConstants = line.contains("=");
            String want = "\n" + (isConstants ? line : line.replaceAll(";$", " {")) + "\n";
            int found = source.indexOf(want, at);
            d.holds("here stands" + want.stripTrailing(), found >= 0);
            at = Math.max(at, found);
        }
        Matcher publics = Pattern.compile("(?m)^.*\\b(public|protected)\\b.*$").matcher(source);
        int many = 0;
        while (publics.find()) many++;
        d.due("lines that are public: the class and its face", many, lines.size() + 1);
        int methods = 0;
        for (var m : ReadingStages.class.getDeclaredMethods()) {
            if (!Modifier.isPrivate(m.getModifiers())) methods++;
        }
        d.due("methods: all lines but the constants and the constructor", methods, lines.size() - 2);
    }

    /** What the interface says ahead of some calls stands ahead of these, and of no others. */
    private static void parts(String document, String source) {
        Matcher m = Pattern.compile("(?m)^Ahead of the calls (.*) the interface says: (----.*)\\.$").matcher(document);
        List<String> parts = new ArrayList<>();
        while (m.find()) {
            d.part(m.group(2));
            parts.add(m.group(2));
            String mark = "    // " + m.group(2) + "\n";
            int from = source.indexOf(mark);
            d.holds("the source says so", from >= 0);
            int to = source.indexOf("    // ----", from + mark.length());
            String part = source.substring(Math.max(0, from), to < 0 ? source.length() : to);
            Matcher calls = Pattern.compile("(?m)^    public int (\\w+)\\(").matcher(part);
            StringBuilder got = new StringBuilder();
            while (calls.find()) got.append(got.isEmpty() ? "" : ", ").append('`').append(calls.group(1)).append('`');
            d.holds("ahead of " + got + ", due is " + m.group(1), got.toString().equals(m.group(1)));
        }
        d.part("Terms");
        d.due("parts of the interface", parts.size(), 4);
    }

    /** What one object is told is told to no other one: two used in turn are as each alone. */
    private static void objectsAreApart() {
        d.part("What it is");
        String one = Given.RICH + " settle(0) image() drift(9) seen(2,2,0) film(2,2,0) undo() restore() read()";
        String other = Given.SEVEN + " read() best(0) fit(3) kept(0,3,0) letter(4) seen(3,3,0) undo() count(5)";
        List<Play.Call> ones = Play.calls(one), others = Play.calls(other);
        Play first = new Play(""), firstAlone = new Play(""), second = new Play(""), secondAlone = new Play("");
        List<Integer> got = new ArrayList<>(), want = new ArrayList<>();
        for (int i = 0; i < Math.max(ones.size(), others.size()); i++) {
            if (i < ones.size()) got.add(first.make(ones.get(i)));
            if (i < others.size()) got.add(second.make(others.get(i)));
        }
        List<Integer> alone = new ArrayList<>(), otherAlone = new ArrayList<>();
        for (Play.Call c : ones) alone.add(firstAlone.make(c));
        for (Play.Call c : others) otherAlone.add(secondAlone.make(c));
        for (int i = 0; i < Math.max(ones.size(), others.size()); i++) {
            if (i < ones.size()) want.add(alone.get(i));
            if (i < others.size()) want.add(otherAlone.get(i));
        }
        for (int i = 0; i < want.size(); i++) d.due("answer " + i + " of two in turn", got.get(i), want.get(i));
    }
}
