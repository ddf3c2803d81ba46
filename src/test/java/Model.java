import java.util.ArrayList;
import java.util.Arrays;
import java.util.List;

/**
 * The document written down once more, word by word and order by order, without any regard to speed:
 * what RandomRunsTest compares the class with. It shares no code and no way of reckoning with it.
 */
final class Model {
    static final int BAD = -1, NOT = -2, FULL = -3, NONE = -4, NULL = -11, CAST = -12, INDEX = -13, SIZE = -14;

    /** All that is undone; a copy is a whole new one. */
    static final class Told {
        List<Integer> sets = new ArrayList<>();
        boolean[][] ahead = new boolean[7][7];
        List<Integer> order = new ArrayList<>();
        int prior = 0, span = 2, bound = 5, rule = 0;
        long draw = 1;

        Told copy() {
            Told t = new Told();
            t.sets = new ArrayList<>(sets);
            t.order = new ArrayList<>(order);
            for (int i = 0; i < 7; i++) t.ahead[i] = ahead[i].clone();
            t.prior = prior; t.span = span; t.bound = bound; t.rule = rule; t.draw = draw;
            return t;
        }
    }

    /** What reading an order brings. */
    static final class Brought {
        int[] fresh, again, lost, known;
        int[] strength = new int[20], timesFresh = new int[20], timesLost = new int[20], firstFresh = new int[20];
        int peak, loss;
    }

    Told t = new Told();
    List<Told> past = new ArrayList<>();
    Told imageTold;
    List<Told> imagePast;
    String tape = "";
    Object[] sheets = new Object[4];

    private int n() { return t.sets.size(); }

    private void keep(Told was) {
        past.add(was);
        if (past.size() > 6) past.remove(0);
    }

    // ---- reading

    private int lasts(int m) {
        if (t.rule == 0) return t.span;
        if (t.rule == 1) return m * t.span;
        int v = t.span;
        for (int i = 1; i < m; i++) v *= 2;
        return v;
    }

    Brought bring(List<Integer> order, boolean[] missed) {
        int n = order.size();
        Brought b = new Brought();
        b.fresh = new int[n]; b.again = new int[n]; b.lost = new int[n]; b.known = new int[n];
        int[] last = new int[20];
        Arrays.fill(b.firstFresh, NONE);
        for (int p = 0; p < n; p++) {
            int set = missed != null && missed[p] ? 0 : t.sets.get(order.get(p));
            for (int w = 0; w < 20; w++) {
                if ((set >> w & 1) == 0 || (t.prior >> w & 1) == 1) continue;
                if (b.strength[w] == 0) {
                    b.fresh[p] |= 1 << w;
                    b.timesFresh[w]++;
                    if (b.firstFresh[w] == NONE) b.firstFresh[w] = p;
                    b.strength[w] = 1;
                } else {
                    b.again[p] |= 1 << w;
                    b.strength[w] = Math.min(9, b.strength[w] + 1);
                }
                last[w] = p;
            }
            for (int w = 0; w < 20; w++) {
                if (b.strength[w] > 0 && p - last[w] >= lasts(b.strength[w])) {
                    b.lost[p] |= 1 << w;
                    b.timesLost[w]++;
                    b.strength[w] = 0;
                }
                if (b.strength[w] > 0) b.known[p] |= 1 << w;
            }
            b.peak = Math.max(b.peak, Integer.bitCount(b.fresh[p]));
            b.loss += Integer.bitCount(b.lost[p]);
        }
        return b;
    }

    private boolean holds(List<Integer> order) {
        for (int i = 0; i < order.size(); i++)
            for (int j = i + 1; j < order.size(); j++)
                if (t.ahead[order.get(j)][order.get(i)]) return false;
        return true;
    }

    private static int number(List<Integer> order) {
        int v = 0;
        for (int b : order) v = v * 10 + b;
        return v;
    }

    private List<List<Integer>> allOrders() {
        List<List<Integer>> all = new ArrayList<>();
        extend(new ArrayList<>(), all);
        return all;
    }

    private void extend(List<Integer> part, List<List<Integer>> all) {
        if (part.size() == n()) { all.add(new ArrayList<>(part)); return; }
        for (int b = 0; b < n(); b++) {
            if (part.contains(b)) continue;
            part.add(b);
            extend(part, all);
            part.remove(part.size() - 1);
        }
    }

    private List<Integer> bestOrder() {
        List<Integer> best = null;
        int peak = 0, loss = 0;
        for (List<Integer> o : allOrders()) {
            if (!holds(o)) continue;
            Brought b = bring(o, null);
            if (best == null || b.peak < peak || b.peak == peak && b.loss < loss
                    || b.peak == peak && b.loss == loss && number(o) < number(best)) {
                best = o; peak = b.peak; loss = b.loss;
            }
        }
        return best;
    }

    private List<Integer> grownOrder() {
        List<Integer> grown = new ArrayList<>();
        while (grown.size() < n()) {
            int pick = -1, fewest = 0, most = 0;
            for (int b = 0; b < n(); b++) {
                if (grown.contains(b)) continue;
                boolean free = true;
                for (int a = 0; a < n(); a++) if (!grown.contains(a) && t.ahead[a][b]) free = false;
                if (!free) continue;
                List<Integer> trial = new ArrayList<>(grown);
                trial.add(b);
                Brought r = bring(trial, null);
                int f = Integer.bitCount(r.fresh[grown.size()]), g = Integer.bitCount(r.again[grown.size()]);
                if (pick < 0 || f < fewest || f == fewest && g > most) { pick = b; fewest = f; most = g; }
            }
            grown.add(pick);
        }
        return grown;
    }

    // ---- changes, without what may be undone

    private boolean goodSet(int set) { return set >= 1 && set < 1048576; }

    private boolean isBook(int k) { return 0 <= k && k < n(); }

    private int doBook(int set) {
        if (!goodSet(set)) return BAD;
        if (n() == 7) return FULL;
        t.order.add(n());
        t.sets.add(set);
        return n() - 1;
    }

    private int doWords(int k, int set) {
        if (!isBook(k) || !goodSet(set)) return BAD;
        if (t.sets.get(k) == set) return NOT;
        return t.sets.set(k, set);
    }

    private int doLose(int k) {
        if (!isBook(k)) return BAD;
        t.sets.remove(k);
        boolean[][] left = new boolean[7][7];
        for (int a = 0; a < 7; a++)
            for (int b = 0; b < 7; b++)
                if (a != k && b != k && t.ahead[a][b]) left[a > k ? a - 1 : a][b > k ? b - 1 : b] = true;
        t.ahead = left;
        t.order.remove(Integer.valueOf(k));
        for (int p = 0; p < t.order.size(); p++) if (t.order.get(p) > k) t.order.set(p, t.order.get(p) - 1);
        return n();
    }

    private boolean goesTo(int a, int b) {
        if (a == b) return true;
        for (int c = 0; c < n(); c++) if (t.ahead[a][c] && goesTo(c, b)) return true;
        return false;
    }

    private int doAhead(int a, int b) {
        if (!isBook(a) || !isBook(b) || a == b) return BAD;
        if (t.ahead[a][b]) { t.ahead[a][b] = false; return 0; }
        if (goesTo(b, a)) return NOT;
        t.ahead[a][b] = true;
        return 1;
    }

    private int doPrior(int set) {
        if (set < 0 || set >= 1048576) return BAD;
        if (set == t.prior) return NOT;
        int was = t.prior;
        t.prior = set;
        return was;
    }

    private int doTell(int what, int v) {
        int was;
        if (what == 0) {
            if (v < 1 || v > 4) return BAD;
            was = t.span; t.span = v;
        } else if (what == 1) {
            if (v < 0 || v > 20) return BAD;
            was = t.bound; t.bound = v;
        } else if (what == 2) {
            if (v < 0 || v > 2) return BAD;
            was = t.rule; t.rule = v;
        } else return BAD;
        return was == v ? NOT : was;
    }

    private int doMove(int p, int q) {
        if (!isBook(p) || !isBook(q)) return BAD;
        if (p == q) return NOT;
        int b = t.order.remove(p);
        t.order.add(q, b);
        return b;
    }

    private int noted(Told was, int answer) {
        if (answer >= 0) keep(was);
        return answer;
    }

    // ---- the calls

    int book(int set) { Told w = t.copy(); return noted(w, doBook(set)); }
    int words(int k, int set) { Told w = t.copy(); return noted(w, doWords(k, set)); }
    int lose(int k) { Told w = t.copy(); return noted(w, doLose(k)); }
    int ahead(int a, int b) { Told w = t.copy(); return noted(w, doAhead(a, b)); }
    int prior(int set) { Told w = t.copy(); return noted(w, doPrior(set)); }
    int tell(int what, int v) { Told w = t.copy(); return noted(w, doTell(what, v)); }
    int move(int p, int q) { Told w = t.copy(); return noted(w, doMove(p, q)); }

    int settle(int what) {
        if (what != 0 && what != 1) return BAD;
        if (n() == 0) return NOT;
        List<Integer> o = what == 0 ? bestOrder() : grownOrder();
        if (o.equals(t.order)) return NOT;
        keep(t.copy());
        t.order = o;
        return number(o);
    }

    int place(int p, int what) {
        if (!isBook(p) || what < 0 || what > 6) return BAD;
        Brought b = bring(t.order, null);
        int[] answers = {t.order.get(p), Integer.bitCount(b.fresh[p]), Integer.bitCount(b.again[p]),
            Integer.bitCount(b.lost[p]), b.fresh[p], b.lost[p], b.known[p]};
        return answers[what];
    }

    int word(int w, int what) {
        if (w < 0 || w > 19 || what < 0 || what > 4) return BAD;
        Brought b = bring(t.order, null);
        int in = 0;
        for (int set : t.sets) in += set >> w & 1;
        int[] answers = {b.firstFresh[w], b.strength[w], b.timesFresh[w], b.timesLost[w], in};
        return answers[what];
    }

    int told(int k, int what) {
        if (!isBook(k) || what < 0 || what > 3) return BAD;
        int behind = 0, before = 0;
        for (int b = 0; b < n(); b++) {
            if (t.ahead[k][b]) behind |= 1 << b;
            if (t.ahead[b][k]) before |= 1 << b;
        }
        int[] answers = {t.sets.get(k), behind, before, t.order.indexOf(k)};
        return answers[what];
    }

    int count(int what) {
        if (what < 0 || what > 10) return BAD;
        Brought b = bring(t.order, null);
        boolean holds = holds(t.order);
        int[] answers = {n(), t.prior, t.span, t.bound, t.rule, number(t.order), b.peak, b.loss,
            holds ? 1 : 0, holds && b.peak <= t.bound ? 1 : 0, past.size()};
        return answers[what];
    }

    int best(int what) {
        if (what < 0 || what > 5) return BAD;
        List<Integer> o = what < 3 ? bestOrder() : grownOrder();
        Brought b = bring(o, null);
        return what % 3 == 0 ? number(o) : what % 3 == 1 ? b.peak : b.loss;
    }

    private List<Integer> fitting() {
        List<Integer> fit = new ArrayList<>();
        for (List<Integer> o : allOrders()) if (holds(o) && bring(o, null).peak <= t.bound) fit.add(number(o));
        return fit;
    }

    int many(int what) {
        if (what < 0 || what > 1) return BAD;
        if (what == 1) return fitting().size();
        int many = 0;
        for (List<Integer> o : allOrders()) if (holds(o)) many++;
        return many;
    }

    int fit(int k) {
        if (k < 0) return BAD;
        List<Integer> fit = fitting();
        fit.sort(null);
        return k < fit.size() ? fit.get(k) : NONE;
    }

    int kept(int w, int c, int what) {
        if (w < 0 || w > 19 || c < 0 || c > 10 || what < 0 || what > 1) return BAD;
        long above = 0, below = 1;
        for (int i = 0; i < n(); i++) below *= 10;
        for (int missed = 0; missed < 1 << n(); missed++) {
            boolean[] m = new boolean[n()];
            long weight = 1;
            for (int p = 0; p < n(); p++) {
                m[p] = (missed >> p & 1) == 1;
                weight *= m[p] ? c : 10 - c;
            }
            if (bring(t.order, m).strength[w] > 0) above += weight;
        }
        for (long d = 2; d <= 5; d += 3)
            while (above % d == 0 && below % d == 0 && below > 1) { above /= d; below /= d; }
        return (int) (what == 0 ? above : below);
    }

    int letter(int k) {
        if (k < 0) return BAD;
        List<String> parts = new ArrayList<>();
        Brought b = bring(t.order, null);
        for (int p = 0; p < n(); p++)
            parts.add(t.order.get(p) + "+" + Integer.bitCount(b.fresh[p])
                + (b.lost[p] == 0 ? "" : "-" + Integer.bitCount(b.lost[p])));
        String note = parts.isEmpty() ? "none" : String.join(" ", parts);
        return k < note.length() ? note.charAt(k) : NONE;
    }

    int type(int letter) {
        if (letter < 32 || letter > 126) return BAD;
        if (tape.length() == 90) return FULL;
        tape += (char) letter;
        return tape.length();
    }

    /** A machine of states, fed letter by letter: -1 none so far, else the FAULT's place. */
    int read() {
        String text = tape;
        tape = "";
        Told was = t.copy();
        t.sets.clear();
        t.order.clear();
        t.ahead = new boolean[7][7];
        int fault = feed(text);
        if (fault >= 0) {
            t = was;
            return -20 - fault;
        }
        keep(was);
        return n();
    }

    private static final int NAME = 0, SPAN = 1, COLON = 2, BOOK = 3, IN_BOOK = 4, BOOK_OVER = 5, FIRST = 6, SECOND = 7,
        PAIR_OVER = 8;

    private int feed(String text) {
        int state = NAME, first = 0;
        for (int i = 0; i < text.length(); i++) {
            char c = text.charAt(i);
            if (c == ' ') {
                if (state == IN_BOOK) state = BOOK_OVER;
                continue;
            }
            switch (state) {
                case NAME: {
                    int end = i;
                    while (end < text.length() && Character.isLowerCase(text.charAt(end))) end++;
                    int rule = List.of("steady", "growing", "doubling").indexOf(text.substring(i, end));
                    if (rule < 0) return i;
                    t.rule = rule;
                    i = end - 1;
                    state = SPAN;
                    break;
                }
                case SPAN:
                    if ("1234".indexOf(c) < 0) return i;
                    t.span = c - '0';
                    state = COLON;
                    break;
                case COLON:
                    if (c != ':') return i;
                    state = BOOK;
                    break;
                case BOOK:
                    if (c < 'a' || c > 't' || n() == 7) return i;
                    doBook(1 << c - 'a');
                    state = IN_BOOK;
                    break;
                case IN_BOOK:
                case BOOK_OVER:
                    if (c == ',') state = BOOK;
                    else if (c == ';') state = FIRST;
                    else if (state == IN_BOOK && c >= 'a' && c <= 't')
                        t.sets.set(n() - 1, t.sets.get(n() - 1) | 1 << c - 'a');
                    else return i;
                    break;
                case FIRST:
                    if (!isBook(c - '0')) return i;
                    first = c - '0';
                    state = SECOND;
                    break;
                case SECOND:
                    if (!isBook(c - '0') || doAhead(first, c - '0') != 1) return i;
                    state = PAIR_OVER;
                    break;
                default:
                    if (c != ',') return i;
                    state = FIRST;
                    break;
            }
        }
        return state == IN_BOOK || state == BOOK_OVER || state == PAIR_OVER ? -1 : text.length();
    }

    private long goOn() {
        t.draw = (t.draw * 1103515245L + 12345L) % 2147483648L;
        return t.draw;
    }

    int drift(int n) {
        if (n < 1 || n > 40) return BAD;
        for (int i = 0; i < n; i++) {
            keep(t.copy());
            int x = (int) (goOn() / 65536), s = (int) (goOn() / 2048 % 1048576);
            int kind = x % 8;
            if (kind <= 1) doBook(s);
            if (kind == 2) doWords(x / 8 % 7, s);
            if (kind == 3) doAhead(x / 8 % 7, x / 64 % 7);
            if (kind == 4 || kind == 5) doMove(x / 8 % 7, x / 64 % 7);
            if (kind == 6) doTell(0, x / 8 % 4 + 1);
            if (kind == 7) doTell(2, x / 8 % 3);
        }
        return n();
    }

    int undo() {
        if (past.isEmpty()) return NONE;
        t = past.remove(past.size() - 1).copy();
        return past.size();
    }

    int seed(int v) {
        if (v < 0) return BAD;
        long was = t.draw;
        t.draw = v;
        return (int) was;
    }

    int image() {
        imageTold = t.copy();
        imagePast = new ArrayList<>(past);
        return 1;
    }

    int restore() {
        if (imageTold == null) return NONE;
        t = imageTold.copy();
        past = new ArrayList<>(imagePast);
        return 1;
    }

    // ---- sheets: real rows, and what the machine finds

    private static int laneOf(Object row) {
        return row instanceof byte[] ? 0 : row instanceof short[] ? 1 : row instanceof int[] ? 2 : 3;
    }

    private static int sizeOf(Object row) { return java.lang.reflect.Array.getLength(row); }

    private static long get(Object row, int i) { return java.lang.reflect.Array.getLong(row, i); }

    private static void put(Object row, int i, long v) {
        if (row instanceof byte[] b) b[i] = (byte) v;
        else if (row instanceof short[] s) s[i] = (short) v;
        else if (row instanceof int[] n) n[i] = (int) v;
        else ((long[]) row)[i] = v;
    }

    private int wrongRow(int sheet, int lane, long i, long n) {
        if (sheet < 0 || sheet > 3 || lane < 0 || lane > 3) return BAD;
        Object row = sheets[sheet];
        if (row == null) return NULL;
        if (laneOf(row) != lane) return CAST;
        return i < 0 || i + n > sizeOf(row) ? INDEX : 0;
    }

    int seen(int sheet, int lane, int i) {
        int wrong = wrongRow(sheet, lane, i, n());
        if (wrong < 0) return wrong;
        if (n() == 0) return NOT;
        for (int p = 0; p < n(); p++) if (get(sheets[sheet], i + p) < 0 || get(sheets[sheet], i + p) > 20) return NOT;
        int many = 0;
        for (List<Integer> o : allOrders()) {
            Brought b = bring(o, null);
            boolean so = true;
            for (int p = 0; p < n(); p++) so &= Integer.bitCount(b.fresh[p]) == get(sheets[sheet], i + p);
            if (so) many++;
        }
        return many;
    }

    int film(int sheet, int lane, int i) {
        int wrong = wrongRow(sheet, lane, i, n());
        if (wrong < 0) return wrong;
        Brought b = bring(t.order, null);
        for (int p = 0; p < n(); p++) put(sheets[sheet], i + p, Integer.bitCount(b.fresh[p]));
        return n();
    }

    int sheet(int sheet, int lane, int n) {
        if (sheet < 0 || sheet > 3 || lane < 0 || lane > 3 || n > 24) return BAD;
        if (n < 0) return SIZE;
        sheets[sheet] = lane == 0 ? new byte[n] : lane == 1 ? new short[n] : lane == 2 ? new int[n] : (Object) new long[n];
        return n;
    }

    int drop(int sheet) {
        if (sheet < 0 || sheet > 3) return BAD;
        if (sheets[sheet] == null) return NULL;
        int had = sizeOf(sheets[sheet]);
        sheets[sheet] = null;
        return had;
    }

    int item(int sheet, int lane, int i, long v) {
        int wrong = wrongRow(sheet, lane, i, 1);
        if (wrong < 0) return wrong;
        put(sheets[sheet], i, v);
        return 1;
    }

    int copy(int from, int i, int to, int j, int n) {
        if (from < 0 || from > 3 || to < 0 || to > 3) return BAD;
        Object a = sheets[from], b = sheets[to];
        if (a == null || b == null) return NULL;
        if (laneOf(a) != laneOf(b)) return CAST;
        if (n < 0 || i < 0 || j < 0 || (long) i + n > sizeOf(a) || (long) j + n > sizeOf(b)) return INDEX;
        long[] taken = new long[n];
        for (int k = 0; k < n; k++) taken[k] = get(a, i + k);
        for (int k = 0; k < n; k++) put(b, j + k, taken[k]);
        return n;
    }
}
