import java.util.Random;
import java.util.stream.IntStream;

/** Runs of 512 calls, drawn by a fixed seed each, answered by the class as by the model; how many may be told. */
public final class RandomRunsTest {
    private static final int RUNS = 2000;
    private static final int CALLS = 512;
    private static final int[] EDGES = {0, 1, -1, 2, 3, 4, 5, 6, 7, 8, 10, 11, 19, 20, 21, 23, 24, 25, 1048575, 1048576,
        Integer.MAX_VALUE, Integer.MIN_VALUE};

    private final Random draw;
    private final ReadingStages x = new ReadingStages();
    private final Model m = new Model();
    private final StringBuilder story = new StringBuilder();
    private boolean wrong;
    private int done;

    private RandomRunsTest(int run) {
        draw = new Random(run * 7919L + 17);
    }

    public static void main(String[] args) {
        int runs = args.length > 0 ? Integer.parseInt(args[0]) : RUNS;
        long wrongRuns = IntStream.range(0, runs).parallel().filter(run -> !new RandomRunsTest(run).agrees(run)).count();
        System.out.println(runs + " runs, " + wrongRuns + " not as due");
        if (wrongRuns > 0) System.exit(1);
    }

    private boolean agrees(int run) {
        int heavy = run % 4 == 0 ? 12 : 3;
        int most = run % 3 == 0 ? 7 : 5;
        while (done < CALLS && !wrong) {
            step(heavy, most);
        }
        if (wrong) {
            synchronized (System.out) {
                System.out.println("run " + run + ":\n" + story);
            }
        }
        return !wrong;
    }

    private void same(String call, int got, int want) {
        done++;
        story.append(call).append(" -> ").append(got).append('\n');
        if (got != want) {
            wrong = true;
            story.append("   due is ").append(want).append('\n');
        }
    }

    private int edge() {
        return EDGES[draw.nextInt(EDGES.length)];
    }

    /** A number below a bound, now and then one that is none. */
    private int some(int bound) {
        return draw.nextInt(15) == 0 ? edge() : draw.nextInt(bound + 1) - (draw.nextInt(6) == 0 ? 1 : 0);
    }

    private int set() {
        if (draw.nextInt(12) == 0) return edge();
        int kind = draw.nextInt(4);
        int set = draw.nextInt(1048576);
        if (kind > 0) set &= draw.nextInt(1048576);
        if (kind > 1) set &= draw.nextInt(1048576);
        if (kind > 2) set &= 255;
        return set;
    }

    private void step(int heavy, int most) {
        int kind = draw.nextInt(100);
        if (kind < heavy) ofAllOrders();
        else if (kind < 40) change(most);
        else if (kind < 70) ask();
        else if (kind < 90) ofSheets();
        else if (kind < 94) text();
        else ofPast();
    }

    private void ofAllOrders() {
        int v = some(6);
        switch (draw.nextInt(7)) {
            case 0: same("best(" + v + ")", x.best(v), m.best(v)); break;
            case 1: same("many(" + v % 3 + ")", x.many(v % 3), m.many(v % 3)); break;
            case 2: case 3: {
                int k = draw.nextInt(3) == 0 ? edge() : draw.nextInt(draw.nextBoolean() ? 30 : 3000);
                same("fit(" + k + ")", x.fit(k), m.fit(k));
                break;
            }
            case 4: {
                int w = some(20), c = some(10), what = some(2);
                same("kept(" + w + "," + c + "," + what + ")", x.kept(w, c, what), m.kept(w, c, what));
                break;
            }
            case 5: same("settle(" + v % 3 + ")", x.settle(v % 3), m.settle(v % 3)); break;
            default: {
                int s = draw.nextInt(4), lane = draw.nextInt(4), i = draw.nextInt(6);
                same("sheet(" + s + "," + lane + ",24)", x.sheet(s, lane, 24), m.sheet(s, lane, 24));
                same("film(" + s + "," + lane + "," + i + ")", x.film(s, lane, i), m.film(s, lane, i));
                if (draw.nextBoolean()) same("settle(0)", x.settle(0), m.settle(0));
                same("seen(" + s + "," + lane + "," + i + ")", x.seen(s, lane, i), m.seen(s, lane, i));
                break;
            }
        }
    }

    private void change(int most) {
        int a = some(7), b = some(7), set = set();
        switch (draw.nextInt(12)) {
            case 0: case 1: case 2:
                if (m.count(0) >= most && draw.nextInt(8) > 0) break;
                same("book(" + set + ")", x.book(set), m.book(set));
                break;
            case 3: same("words(" + a + "," + set + ")", x.words(a, set), m.words(a, set)); break;
            case 4: same("lose(" + a + ")", x.lose(a), m.lose(a)); break;
            case 5: case 6: case 7: same("ahead(" + a + "," + b + ")", x.ahead(a, b), m.ahead(a, b)); break;
            case 8: {
                int prior = draw.nextInt(3) == 0 ? 0 : set;
                same("prior(" + prior + ")", x.prior(prior), m.prior(prior));
                break;
            }
            case 9: {
                int what = some(3), v = draw.nextBoolean() ? some(4) : some(20);
                same("tell(" + what + "," + v + ")", x.tell(what, v), m.tell(what, v));
                break;
            }
            default: same("move(" + a + "," + b + ")", x.move(a, b), m.move(a, b)); break;
        }
    }

    private void ask() {
        switch (draw.nextInt(5)) {
            case 0: {
                int p = some(7), what = some(7);
                same("place(" + p + "," + what + ")", x.place(p, what), m.place(p, what));
                break;
            }
            case 1: {
                int w = some(20), what = some(5);
                same("word(" + w + "," + what + ")", x.word(w, what), m.word(w, what));
                break;
            }
            case 2: {
                int k = some(7), what = some(4);
                same("told(" + k + "," + what + ")", x.told(k, what), m.told(k, what));
                break;
            }
            case 3: {
                int what = some(11);
                same("count(" + what + ")", x.count(what), m.count(what));
                break;
            }
            default: {
                int k = some(45);
                same("letter(" + k + ")", x.letter(k), m.letter(k));
                break;
            }
        }
    }

    private void ofSheets() {
        int s = some(4), lane = draw.nextInt(3) > 0 ? 2 : some(4), i = some(24), n = some(24);
        switch (draw.nextInt(8)) {
            case 0: case 1: same("sheet(" + s + "," + lane + "," + n + ")", x.sheet(s, lane, n), m.sheet(s, lane, n)); break;
            case 2: same("drop(" + s + ")", x.drop(s), m.drop(s)); break;
            case 3: case 4: {
                long v = draw.nextInt(3) == 0 ? draw.nextLong() : draw.nextInt(8) + (draw.nextInt(4) == 0 ? 256 : 0);
                int at = draw.nextBoolean() ? i : draw.nextInt(7);
                same("item(" + s + "," + lane + "," + at + "," + v + ")", x.item(s, lane, at, v), m.item(s, lane, at, v));
                break;
            }
            case 5: {
                int to = some(4), j = draw.nextBoolean() ? some(24) : draw.nextInt(4), many = draw.nextInt(3) == 0 ? n : draw.nextInt(6);
                same("copy(" + s + "," + i + "," + to + "," + j + "," + many + ")",
                    x.copy(s, i, to, j, many), m.copy(s, i, to, j, many));
                break;
            }
            case 6: same("film(" + s + "," + lane + "," + i % 9 + ")", x.film(s, lane, i % 9), m.film(s, lane, i % 9)); break;
            default:
                if (m.count(0) > 5 && draw.nextInt(4) > 0) break;
                same("seen(" + s + "," + lane + "," + i % 9 + ")", x.seen(s, lane, i % 9), m.seen(s, lane, i % 9));
                break;
        }
    }

    private String words() {
        StringBuilder t = new StringBuilder();
        int many = 1 + draw.nextInt(5);
        for (int i = 0; i < many; i++) t.append((char) ('a' + draw.nextInt(draw.nextInt(30) == 0 ? 26 : 20)));
        return t.toString();
    }

    private String blank() {
        return draw.nextInt(6) == 0 ? " " : "";
    }

    private void text() {
        String[] names = {"steady", "growing", "doubling", "stead", "steadyx", "Steady", ""};
        StringBuilder t = new StringBuilder(blank());
        t.append(names[draw.nextInt(draw.nextInt(6) == 0 ? names.length : 3)]).append(blank());
        t.append(draw.nextInt(8) == 0 ? draw.nextInt(10) : 1 + draw.nextInt(4)).append(blank()).append(':').append(blank());
        int books = 1 + draw.nextInt(draw.nextInt(5) == 0 ? 8 : 6);
        for (int k = 0; k < books; k++) {
            if (k > 0) t.append(blank()).append(',').append(blank());
            t.append(words());
        }
        int pairs = draw.nextInt(4);
        for (int k = 0; k < pairs; k++) {
            t.append(k == 0 ? ";" : ",").append(blank()).append(draw.nextInt(books)).append(blank()).append(draw.nextInt(books));
        }
        t.append(blank());
        if (draw.nextInt(4) == 0 && t.length() > 0) {
            int at = draw.nextInt(t.length());
            switch (draw.nextInt(3)) {
                case 0: t.deleteCharAt(at); break;
                case 1: t.setLength(at); break;
                default: t.setCharAt(at, (char) (32 + draw.nextInt(95))); break;
            }
        }
        for (int i = 0; i < t.length(); i++) {
            char c = t.charAt(i);
            same("type('" + c + "')", x.type(c), m.type(c));
        }
        if (draw.nextInt(6) == 0) {
            int v = draw.nextBoolean() ? edge() : draw.nextInt(140);
            same("type(" + v + ")", x.type(v), m.type(v));
        }
        if (draw.nextInt(12) > 0) same("read()", x.read(), m.read());
    }

    private void ofPast() {
        switch (draw.nextInt(9)) {
            case 0: case 1: case 2: same("undo()", x.undo(), m.undo()); break;
            case 3: same("image()", x.image(), m.image()); break;
            case 4: same("restore()", x.restore(), m.restore()); break;
            case 5: {
                int v = draw.nextInt(4) == 0 ? edge() : draw.nextInt();
                same("seed(" + v + ")", x.seed(v), m.seed(v));
                break;
            }
            default: {
                int n = draw.nextInt(6) == 0 ? some(42) : 1 + draw.nextInt(5);
                same("drift(" + n + ")", x.drift(n), m.drift(n));
                break;
            }
        }
        if (draw.nextInt(5) == 0) {
            int d = x.seed(1);
            same("seed(1)", d, m.seed(1));
            same("seed(back)", x.seed(d), m.seed(d));
        }
    }
}
