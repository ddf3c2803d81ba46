import java.io.IOException;
import java.nio.file.Files;
import java.nio.file.Path;
import java.util.HashMap;
import java.util.Map;
import java.util.TreeMap;
import java.util.regex.Matcher;
import java.util.regex.Pattern;

/** The document by its headings, and which of its words have been named so far. */
final class Document {
    private static final Path PLACE = Path.of("../shared/DOC.md");
    private static final Pattern HEADING = Pattern.compile("(?m)^## (.*)$");

    private final Map<String, String> texts = new TreeMap<>();
    private final Map<String, boolean[]> named = new HashMap<>();

    Document() {
        String all = whole();
        Matcher m = HEADING.matcher(all);
        String heading = "";
        int from = 0;
        while (m.find()) {
            keep(heading, all.substring(from, m.start()));
            heading = m.group(1).replaceAll(":.*", "").trim();
            from = m.end();
        }
        keep(heading, all.substring(from));
    }

    private static String whole() {
        try {
            return Files.readString(PLACE);
        } catch (IOException e) {
            throw new IllegalStateException("the document is not at " + PLACE, e);
        }
    }

    /** Without the marks of the page, the calls' forms, and the lines that only tell which calls stand together. */
    private void keep(String heading, String text) {
        String plain = text.replaceAll("```\\w*", " ").replaceAll("(?s)^\\s*`[^`]*`:", " ").replaceAll("====+ \\d", " ")
            .replaceAll("Ahead of the calls [^-]*----( \\d [a-z, ]*\\.)?", " ").replaceAll("\\s+", " ").trim();
        texts.put(heading, plain);
        named.put(heading, new boolean[plain.length()]);
    }

    /** Marks a sentence as named, at the first place at which it was not yet; whether it is there at all. */
    boolean name(String heading, String sentence) {
        String text = texts.getOrDefault(heading, "");
        int found = -1;
        for (int at = text.indexOf(sentence); at >= 0; at = text.indexOf(sentence, at + 1)) {
            if (found < 0 || named.get(heading)[found]) found = at;
        }
        for (int i = 0; found >= 0 && i < sentence.length(); i++) named.get(heading)[found + i] = true;
        return found >= 0;
    }

    /** The words under a heading that no sentence named. */
    String unnamed(String heading) {
        String text = texts.getOrDefault(heading, "there is no such heading");
        StringBuilder left = new StringBuilder();
        for (int i = 0; i < text.length(); i++) {
            boolean isLeft = !texts.containsKey(heading) || !named.get(heading)[i];
            left.append(isLeft ? text.charAt(i) : ' ');
        }
        return left.toString().replaceAll("\\s+", " ").trim();
    }

    boolean says(String heading, String word) {
        return Pattern.compile("\\b" + word + "\\b").matcher(texts.getOrDefault(heading, "")).find();
    }
}
