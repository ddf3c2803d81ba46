import java.util.HashMap;
import java.util.Map;

/**
 * All that calls can tell of an object behind a run: what stands, all that may be undone, the image, the tape, the
 * sheets. Much of the asking changes the object, so each part is asked of a new one, made by the same run.
 */
final class Sight {
    private static final Map<String, String> KNOWN = new HashMap<>();

    private static final String[] ASKED = {"many(0)", "many(1)", "fit(0)", "fit(3)", "best(0)", "best(1)", "best(2)", "best(3)",
        "best(4)", "best(5)", "count(6)", "count(7)", "count(8)", "count(9)", "kept(0,3,0)", "kept(0,3,1)"};

    private Sight() { }

    static String of(String run) {
        String known = KNOWN.get(run);
        if (known == null) {
            known = "now " + now(run) + "| asked " + asked(run) + "| image " + image(run) + "| tape " + tape(run)
                + "| sheets " + sheets(run);
            KNOWN.put(run, known);
        }
        return known;
    }

    /** What stands, and what may be undone. */
    private static String now(String run) {
        StringBuilder t = new StringBuilder();
        addPast(t, new Play(run));
        return t.toString();
    }

    /** What is reckoned from what stands. */
    private static String asked(String run) {
        StringBuilder t = new StringBuilder();
        Play p = new Play(run);
        for (String call : ASKED) t.append(p.make(call)).append(' ');
        for (int k = 0; k < 60; k++) t.append((char) Math.max(' ', p.make("letter(" + k + ")")));
        for (int what = 0; what < 7; what++) t.append(p.make("place(3," + what + ")")).append(' ');
        for (int what = 0; what < 5; what++) t.append(p.make("word(2," + what + ")")).append(' ');
        return t.toString();
    }

    private static String image(String run) {
        StringBuilder t = new StringBuilder();
        Play p = new Play(run);
        t.append(p.make("restore()")).append(' ');
        addPast(t, p);
        return t.toString();
    }

    private static void addPast(StringBuilder t, Play p) {
        t.append(p.make("count(10)")).append(" may be undone ");
        addStanding(t, p);
        for (int i = 0; i < 7; i++) {
            t.append("undo ").append(p.make("undo()")).append(' ');
            addStanding(t, p);
        }
    }

    static void addStanding(StringBuilder t, Play p) {
        for (int what = 0; what < 6; what++) t.append(p.make("count(" + what + ")")).append(' ');
        for (int k = 0; k < 7; k++) {
            for (int what = 0; what < 4; what++) t.append(p.make("told(" + k + "," + what + ")")).append(' ');
        }
        int draw = p.make("seed(0)");
        p.make("seed(" + draw + ")");
        t.append("draw ").append(draw).append(' ');
    }

    /** How many letters there are, and what they are if some more follow. */
    private static String tape(String run) {
        StringBuilder t = new StringBuilder();
        for (String more : new String[] {"", ";01", "steady1:ab,c,cd;01"}) {
            Play p = new Play(run);
            t.append(p.make("text[" + more + "] read()")).append(' ');
            addStanding(t, p);
        }
        return t.append(new Play(run).make("type(97)")).append(' ').toString();
    }

    /** Lanes, sizes, and which items are 0 .. 20: by one book that brings so many new words. */
    private static String sheets(String run) {
        StringBuilder t = new StringBuilder();
        for (int v = 0; v <= 20; v++) {
            Play p = new Play(run);
            p.make("read() text[steady1:a] read() prior(" + (v == 0 ? 1 : 0) + ")");
            if (v > 1) p.make("words(0," + ((1 << v) - 1) + ")");
            for (int s = 0; s < 4; s++) addItems(t, p, s);
        }
        return t.toString();
    }

    private static void addItems(StringBuilder t, Play p, int s) {
        for (int lane = 0; lane < 4; lane++) {
            int answer = p.make("seen(" + s + "," + lane + ",0)");
            t.append(answer).append(answer == ReadingStages.NULL || answer == ReadingStages.CAST ? ' ' : ':');
            for (int i = 1; answer != ReadingStages.NULL && answer != ReadingStages.CAST && i < 25; i++) {
                t.append(p.make("seen(" + s + "," + lane + "," + i + ")")).append(' ');
            }
        }
    }
}
