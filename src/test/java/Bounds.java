import java.util.HashMap;
import java.util.HashSet;
import java.util.Map;
import java.util.Set;

/**
 * Looks at boundary cases, each under the sentence of the document that asks for it. At the end each word under the
 * headings looked at must have been named, with a case for it, and each refusal that a promise names must have been met.
 */
final class Bounds {
    private static final String[] REFUSALS = {"BAD", "NOT", "FULL", "NONE", "NULL", "CAST", "INDEX", "SIZE"};
    private static final int[] NUMBERS = {-1, -2, -3, -4, -11, -12, -13, -14};

    private final Due d = new Due();
    private final Document document = new Document();
    private final Map<String, Set<Integer>> answers = new HashMap<>();
    private String heading = "";
    private String sentence = "";
    private int cases = 1;

    /** What follows holds this sentence of the document. */
    void at(String heading, String sentence) {
        endSentence();
        this.heading = heading;
        this.sentence = sentence;
        d.part(heading + ", \"" + sentence + "\"");
        d.holds("the document says so", document.name(heading, sentence));
        cases = 0;
    }

    private void endSentence() {
        d.holds("there is a case of \"" + sentence + "\"", cases > 0);
    }

    /** A run behind another one: each answer that is told is due. */
    void run(String given, String run) {
        Play p = new Play(given);
        for (Play.Call c : Play.calls(run)) {
            int answer = p.make(c);
            if (c.due() != null) due("[" + given + "] .. " + c.told(), answer, c.due());
        }
    }

    /** Each call alone behind a run: it answers as told, and nothing changes. */
    void refused(String given, String calls) {
        for (Play.Call c : Play.calls(calls)) {
            if (c.due() == null) throw new IllegalArgumentException("no answer told: " + c.told());
            due("[" + given + "] " + c.told(), new Play(given).make(c), c.due());
            same(given + " " + c.told(), given);
        }
    }

    /** Behind both runs all is alike. */
    void same(String run, String other) {
        String got = Sight.of(run), want = Sight.of(other);
        cases++;
        d.holds("[" + run + "] is as [" + other + "]" + difference(got, want), got.equals(want));
    }

    /** Behind a run the note is as told, and there is no letter behind it. */
    void note(String given, String want) {
        Play p = new Play(given);
        for (int k = 0; k <= want.length(); k++) {
            int letter = k < want.length() ? want.charAt(k) : ReadingStages.NONE;
            due("[" + given + "] letter(" + k + ") of \"" + want + "\"", p.make("letter(" + k + ")"), letter);
        }
    }

    /** A text on a new object and where other books stood: its fault is at the place told, and all but the tape stays. */
    void fault(String text, int place) {
        for (String given : new String[] {Given.NEW, Given.TWO}) {
            String run = given + " text[" + text + "] read()";
            due("[" + run + "]", new Play("").make(run), -20 - place);
            same(run, given);
        }
    }

    void due(String call, int got, int want) {
        cases++;
        answers.computeIfAbsent(heading, h -> new HashSet<>()).add(want);
        d.due(call, got, want);
    }

    private static String difference(String got, String want) {
        int i = 0;
        while (i < got.length() && i < want.length() && got.charAt(i) == want.charAt(i)) i++;
        int from = Math.max(0, i - 60);
        return i >= got.length() ? "" : ": .." + got.substring(from, Math.min(got.length(), i + 20))
            + ".. instead of .." + want.substring(Math.min(from, want.length()), Math.min(want.length(), i + 20)) + "..";
    }

    /** Ends with exit code 1, if an answer was not due or the headings are not all looked at. */
    void close(String... headings) {
        endSentence();
        for (String h : headings) {
            d.part(h);
            d.holds("no case is named for: " + document.unnamed(h), document.unnamed(h).isEmpty());
            for (int i = 0; i < REFUSALS.length; i++) {
                boolean met = answers.getOrDefault(h, Set.of()).contains(NUMBERS[i]);
                d.holds("there is a case of " + REFUSALS[i], met || !document.says(h, REFUSALS[i]));
            }
        }
        d.close();
    }

    void closePromises(int first, int last) {
        String[] headings = new String[last - first + 1];
        for (int i = first; i <= last; i++) headings[i - first] = "Promise " + i;
        close(headings);
    }
}
