import java.util.ArrayList;
import java.util.HashMap;
import java.util.List;
import java.util.Map;
import java.util.regex.Matcher;
import java.util.regex.Pattern;

/**
 * A new object, and calls on it that are told as a text: {@code book(3) text[steady2:ab] read()=1}. A text is typed
 * letter by letter; behind = stands the answer that is due, a number or its name.
 */
final class Play {
    /** A call as it was told; due is null, if no answer was told. */
    record Call(String told, String name, long[] args, Integer due) { }

    private static final int MOST_CALLS = 512;
    private static final Pattern CALL = Pattern.compile("\\s*(?:text\\[([^\\]]*)\\]|(\\w+)\\(([^)]*)\\)(?:=(-?\\w+))?)\\s*");
    private static final Map<String, Long> NAMES = Map.ofEntries(
        Map.entry("BAD", -1L), Map.entry("NOT", -2L), Map.entry("FULL", -3L), Map.entry("NONE", -4L),
        Map.entry("NULL", -11L), Map.entry("CAST", -12L), Map.entry("INDEX", -13L), Map.entry("SIZE", -14L),
        Map.entry("ALL", 1048575L), Map.entry("MAX", (long) Integer.MAX_VALUE), Map.entry("MIN", (long) Integer.MIN_VALUE),
        Map.entry("LONGEST", Long.MAX_VALUE), Map.entry("LEAST", Long.MIN_VALUE));
    private static final Map<String, List<Call>> KNOWN = new HashMap<>();

    private final ReadingStages x = new ReadingStages();
    private int made;

    Play(String run) {
        make(run);
    }

    static List<Call> calls(String run) {
        return KNOWN.computeIfAbsent(run, Play::split);
    }

    private static List<Call> split(String run) {
        List<Call> calls = new ArrayList<>();
        Matcher m = CALL.matcher(run);
        int at = 0;
        while (at < run.length()) {
            if (!m.find(at) || m.start() != at) throw new IllegalArgumentException("no call: " + run.substring(at));
            at = m.end();
            if (m.group(1) == null) {
                calls.add(new Call(m.group().trim(), m.group(2), numbers(m.group(3)), due(m.group(4))));
                continue;
            }
            for (char c : m.group(1).toCharArray()) {
                calls.add(new Call("type(" + (int) c + ")", "type", new long[] {c}, null));
            }
        }
        return calls;
    }

    private static long[] numbers(String args) {
        if (args.isBlank()) return new long[0];
        String[] told = args.split(",");
        long[] numbers = new long[told.length];
        for (int i = 0; i < told.length; i++) numbers[i] = number(told[i].trim());
        return numbers;
    }

    private static Integer due(String told) {
        return told == null ? null : Integer.valueOf((int) number(told));
    }

    private static long number(String told) {
        Long named = NAMES.get(told);
        return named != null ? named : Long.parseLong(told);
    }

    /** Makes the calls: the answer of the last one. */
    int make(String run) {
        int answer = 0;
        for (Call c : calls(run)) answer = make(c);
        return answer;
    }

    int make(Call c) {
        made++;
        if (made > MOST_CALLS) throw new IllegalStateException("behind the 512th call nothing is promised");
        long[] a = c.args;
        int p = a.length > 0 ? (int) a[0] : 0, q = a.length > 1 ? (int) a[1] : 0, r = a.length > 2 ? (int) a[2] : 0;
        switch (c.name + a.length) {
            case "book1": return x.book(p);
            case "words2": return x.words(p, q);
            case "lose1": return x.lose(p);
            case "ahead2": return x.ahead(p, q);
            case "prior1": return x.prior(p);
            case "tell2": return x.tell(p, q);
            case "move2": return x.move(p, q);
            case "settle1": return x.settle(p);
            case "place2": return x.place(p, q);
            case "word2": return x.word(p, q);
            case "told2": return x.told(p, q);
            case "count1": return x.count(p);
            case "best1": return x.best(p);
            case "many1": return x.many(p);
            case "fit1": return x.fit(p);
            case "kept3": return x.kept(p, q, r);
            case "letter1": return x.letter(p);
            case "type1": return x.type(p);
            case "read0": return x.read();
            case "drift1": return x.drift(p);
            case "undo0": return x.undo();
            case "seed1": return x.seed(p);
            case "image0": return x.image();
            case "restore0": return x.restore();
            case "seen3": return x.seen(p, q, r);
            case "film3": return x.film(p, q, r);
            case "sheet3": return x.sheet(p, q, r);
            case "drop1": return x.drop(p);
            case "item4": return x.item(p, q, r, a[3]);
            case "copy5": return x.copy(p, q, r, (int) a[3], (int) a[4]);
            default: throw new IllegalArgumentException("no such call: " + c.told);
        }
    }
}
