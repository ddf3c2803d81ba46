/** Each promise of the document by its number, with answers reckoned by hand. */
public final class PromisesTest {
    private static final int BAD = -1, NOT = -2, FULL = -3, NONE = -4, NULL = -11, CAST = -12, INDEX = -13, SIZE = -14;
    private static final int ALL = 1048575, MAX = Integer.MAX_VALUE, MIN = Integer.MIN_VALUE;
    private static final Due d = new Due();

    public static void main(String[] args) {
        newObject();
        book();
        words();
        lose();
        ahead();
        prior();
        tell();
        move();
        settle();
        place();
        lastsByRules();
        word();
        told();
        count();
        best();
        grown();
        many();
        fit();
        kept();
        letter();
        type();
        readTexts();
        readFaults();
        drift();
        driftByCalls();
        undo();
        undoOfEach();
        seed();
        image();
        seen();
        film();
        sheet();
        drop();
        item();
        copy();
        readme();
        d.close();
    }

    /** Books of the letters told, as in a text. */
    private static ReadingStages withBooks(String... books) {
        ReadingStages x = new ReadingStages();
        for (String b : books) {
            x.book(setOf(b));
        }
        return x;
    }

    private static int setOf(String letters) {
        int set = 0;
        for (char c : letters.toCharArray()) {
            set |= 1 << c - 'a';
        }
        return set;
    }

    private static int read(ReadingStages x, String text) {
        for (char c : text.toCharArray()) {
            x.type(c);
        }
        return x.read();
    }

    private static void note(ReadingStages x, String want) {
        StringBuilder got = new StringBuilder();
        for (int k = 0; x.letter(k) >= 0; k++) {
            got.append((char) x.letter(k));
        }
        d.holds("the note \"" + got + "\" is \"" + want + "\"", want.contentEquals(got));
        d.due("letter behind the note", x.letter(want.length()), NONE);
    }

    private static void newObject() {
        d.part("promise 1");
        ReadingStages x = new ReadingStages();
        int[] want = {0, 0, 2, 5, 0, 0, 0, 0, 1, 1, 0};
        for (int what = 0; what < want.length; what++) {
            d.due("count(" + what + ")", x.count(what), want[what]);
        }
        d.due("seed(1)", x.seed(1), 1);
        for (int s = 0; s < 4; s++) {
            d.due("drop(" + s + ")", x.drop(s), NULL);
        }
        d.due("restore()", x.restore(), NONE);
        d.due("type", x.type('a'), 1);
    }

    private static void book() {
        d.part("promise 2");
        ReadingStages x = new ReadingStages();
        for (int set : new int[] {0, -1, ALL + 1, MAX, MIN}) {
            d.due("book(" + set + ")", x.book(set), BAD);
        }
        d.due("count(10)", x.count(10), 0);
        for (int k = 0; k < 7; k++) {
            d.due("book", x.book(k == 0 ? ALL : 1 << k), k);
        }
        d.due("told(0,0)", x.told(0, 0), ALL);
        d.due("told(6,0)", x.told(6, 0), 64);
        d.due("count(5)", x.count(5), 123456);
        d.due("book(1)", x.book(1), FULL);
        d.due("book(0)", x.book(0), BAD);
        x.move(6, 0);
        x.lose(0);
        d.due("book behind THE ORDER", x.book(5), 6);
        d.due("count(5)", x.count(5), 5012346);
        d.due("of a new one none is ahead", x.told(6, 1) + x.told(6, 2), 0);
    }

    private static void words() {
        d.part("promise 3");
        ReadingStages x = withBooks("ab", "c");
        d.due("words(0,8)", x.words(0, 8), 3);
        d.due("told(0,0)", x.told(0, 0), 8);
        d.due("words(0,8)", x.words(0, 8), NOT);
        d.due("words(2,8)", x.words(2, 8), BAD);
        d.due("words(-1,8)", x.words(-1, 8), BAD);
        d.due("words(MAX,8)", x.words(MAX, 8), BAD);
        d.due("words(0,0)", x.words(0, 0), BAD);
        d.due("words(0,ALL+1)", x.words(0, ALL + 1), BAD);
        d.due("words(0,MIN)", x.words(0, MIN), BAD);
        d.due("words(1,ALL)", x.words(1, ALL), 4);
        d.due("count(10)", x.count(10), 4);
    }

    private static void lose() {
        d.part("promise 4");
        ReadingStages x = withBooks("a", "b", "c", "d");
        x.ahead(0, 1);
        x.ahead(1, 2);
        x.ahead(0, 3);
        x.move(3, 0);
        d.due("lose(4)", x.lose(4), BAD);
        d.due("lose(-1)", x.lose(-1), BAD);
        d.due("lose(1)", x.lose(1), 3);
        d.due("count(5)", x.count(5), 201);
        d.due("told(1,0)", x.told(1, 0), 4);
        d.due("told(2,0)", x.told(2, 0), 8);
        d.due("told(0,1)", x.told(0, 1), 4);
        d.due("told(1,2)", x.told(1, 2), 0);
        d.due("told(2,2)", x.told(2, 2), 1);
        d.due("lose(2)", x.lose(2), 2);
        d.due("told(0,1)", x.told(0, 1), 0);
        d.due("lose(0)", x.lose(0), 1);
        d.due("lose(0)", x.lose(0), 0);
        d.due("lose(0)", x.lose(0), BAD);
        d.due("count(5)", x.count(5), 0);
    }

    private static void ahead() {
        d.part("promise 5");
        ReadingStages x = withBooks("a", "b", "c", "d");
        d.due("ahead(0,0)", x.ahead(0, 0), BAD);
        d.due("ahead(0,4)", x.ahead(0, 4), BAD);
        d.due("ahead(4,0)", x.ahead(4, 0), BAD);
        d.due("ahead(-1,0)", x.ahead(-1, 0), BAD);
        d.due("ahead(0,-1)", x.ahead(0, -1), BAD);
        d.due("ahead(MAX,MIN)", x.ahead(MAX, MIN), BAD);
        d.due("ahead(2,1)", x.ahead(2, 1), 1);
        d.due("ahead(1,2)", x.ahead(1, 2), NOT);
        d.due("ahead(1,0)", x.ahead(1, 0), 1);
        d.due("ahead(3,2)", x.ahead(3, 2), 1);
        d.due("ahead(0,3) by others in between", x.ahead(0, 3), NOT);
        d.due("ahead(3,0)", x.ahead(3, 0), 1);
        d.due("told(3,1)", x.told(3, 1), 5);
        d.due("told(0,2)", x.told(0, 2), 10);
        d.due("ahead(2,1) again", x.ahead(2, 1), 0);
        d.due("told(2,1)", x.told(2, 1), 0);
        d.due("ahead(1,2)", x.ahead(1, 2), 1);
    }

    private static void prior() {
        d.part("promise 6");
        ReadingStages x = withBooks("abc", "abd");
        d.due("prior(0)", x.prior(0), NOT);
        d.due("prior(-1)", x.prior(-1), BAD);
        d.due("prior(ALL+1)", x.prior(ALL + 1), BAD);
        d.due("prior(ALL)", x.prior(ALL), 0);
        d.due("prior(3)", x.prior(3), ALL);
        d.due("prior(3)", x.prior(3), NOT);
        d.due("count(1)", x.count(1), 3);
        note(x, "0+1 1+1");
        d.due("told(0,0)", x.told(0, 0), 7);
        d.due("prior(0)", x.prior(0), 3);
        note(x, "0+3 1+1");
    }

    private static void tell() {
        d.part("promise 7");
        ReadingStages x = new ReadingStages();
        int[][] bad = {{0, 0}, {0, 5}, {0, MIN}, {1, -1}, {1, 21}, {2, -1}, {2, 3}, {3, 1}, {-1, 1}, {MAX, 1}};
        for (int[] b : bad) {
            d.due("tell(" + b[0] + "," + b[1] + ")", x.tell(b[0], b[1]), BAD);
        }
        d.due("tell(0,2)", x.tell(0, 2), NOT);
        d.due("tell(1,5)", x.tell(1, 5), NOT);
        d.due("tell(2,0)", x.tell(2, 0), NOT);
        d.due("tell(0,4)", x.tell(0, 4), 2);
        d.due("tell(0,1)", x.tell(0, 1), 4);
        d.due("tell(1,0)", x.tell(1, 0), 5);
        d.due("tell(1,20)", x.tell(1, 20), 0);
        d.due("tell(2,2)", x.tell(2, 2), 0);
        d.due("tell(2,1)", x.tell(2, 1), 2);
        d.due("count(2)", x.count(2), 1);
        d.due("count(3)", x.count(3), 20);
        d.due("count(4)", x.count(4), 1);
        d.due("count(10)", x.count(10), 6);
    }

    private static void move() {
        d.part("promise 8");
        ReadingStages x = withBooks("a", "b", "c", "d");
        d.due("move(0,4)", x.move(0, 4), BAD);
        d.due("move(4,4)", x.move(4, 4), BAD);
        d.due("move(-1,0)", x.move(-1, 0), BAD);
        d.due("move(0,MAX)", x.move(0, MAX), BAD);
        d.due("move(1,1)", x.move(1, 1), NOT);
        d.due("move(0,2)", x.move(0, 2), 0);
        d.due("count(5)", x.count(5), 1203);
        d.due("move(3,1)", x.move(3, 1), 3);
        d.due("count(5)", x.count(5), 1320);
        d.due("move(0,3)", x.move(0, 3), 1);
        d.due("count(5)", x.count(5), 3201);
    }

    private static void settle() {
        d.part("promise 9");
        ReadingStages x = new ReadingStages();
        d.due("settle(2)", x.settle(2), BAD);
        d.due("settle(-1)", x.settle(-1), BAD);
        d.due("settle(0)", x.settle(0), NOT);
        d.due("settle(1)", x.settle(1), NOT);
        // 1 first brings 1 new word, 0 behind it 2: PEAK 2 instead of 3.
        x = withBooks("abc", "a");
        d.due("settle(0)", x.settle(0), 10);
        d.due("count(5)", x.count(5), 10);
        d.due("settle(0)", x.settle(0), NOT);
        d.due("settle(1)", x.settle(1), NOT);
        d.due("undo()", x.undo(), 2);
        d.due("count(5)", x.count(5), 1);
        d.due("settle(1)", x.settle(1), 10);
        x.ahead(0, 1);
        d.due("settle(0)", x.settle(0), 1);
    }

    private static void place() {
        d.part("promise 10");
        // SPAN 2, STEADY: b of place 0 is LOST at place 2, a of place 1 at place 3.
        ReadingStages x = withBooks("ab", "ac", "d", "bd");
        int[][] want = {
            {0, 2, 0, 0, 3, 0, 3},
            {1, 1, 1, 0, 4, 0, 7},
            {2, 1, 0, 1, 8, 2, 13},
            {3, 1, 1, 2, 2, 5, 10}};
        for (int p = 0; p < 4; p++) {
            for (int what = 0; what < 7; what++) {
                d.due("place(" + p + "," + what + ")", x.place(p, what), want[p][what]);
            }
        }
        d.due("place(4,0)", x.place(4, 0), BAD);
        d.due("place(-1,0)", x.place(-1, 0), BAD);
        d.due("place(0,7)", x.place(0, 7), BAD);
        d.due("place(0,-1)", x.place(0, -1), BAD);
        d.due("place(MAX,MIN)", x.place(MAX, MIN), BAD);
    }

    private static void lastsByRules() {
        d.part("terms 1");
        // a is met at places 0 and 1: STRENGTH 2 at place 1; it LASTS 1, 2, 2 places behind it by SPAN 1.
        ReadingStages x = withBooks("a", "a", "b", "c", "d", "e", "f");
        for (int rule = 0; rule < 3; rule++) {
            x.tell(2, rule);
            for (int span = 1; span < 5; span++) {
                x.tell(0, span);
                int due = rule == 0 ? 1 + span : 1 + 2 * span;
                for (int p = 0; p < 7; p++) {
                    d.due("rule " + rule + " span " + span + " place " + p, x.place(p, 5) & 1, p == due ? 1 : 0);
                }
            }
        }
        // STRENGTH 3 at place 2: by SPAN 1 it LASTS 1 (lost at 3), 3 (at 5), 4 (at 6).
        x = withBooks("a", "a", "a", "b", "c", "d", "e");
        x.tell(0, 1);
        for (int rule = 0; rule < 3; rule++) {
            x.tell(2, rule);
            int due = rule == 0 ? 3 : rule == 1 ? 5 : 6;
            for (int p = 0; p < 7; p++) {
                d.due("rule " + rule + " place " + p, x.place(p, 5) & 1, p == due ? 1 : 0);
            }
        }
        // A word that is LOST begins at STRENGTH 1 again.
        x = withBooks("a", "a", "b", "a", "b");
        x.tell(0, 1);
        d.due("word(0,1)", x.word(0, 1), 0);
        d.due("word(0,2)", x.word(0, 2), 2);
        d.due("word(0,3)", x.word(0, 3), 2);
        x.tell(2, 1);
        d.due("word(0,1)", x.word(0, 1), 3);
    }

    private static void word() {
        d.part("promise 11");
        ReadingStages x = withBooks("ab", "ac", "d", "bd");
        x.move(0, 3);
        // Read: ac, d, bd, ab: c LOST at 2; a too, NEW again at 3; d stays (2).
        int[][] want = {{0, 1, 2, 1, 2}, {2, 2, 1, 0, 2}, {0, 0, 1, 1, 1}, {1, 2, 1, 0, 2}, {NONE, 0, 0, 0, 0}};
        for (int w = 0; w < 5; w++) {
            for (int what = 0; what < 5; what++) {
                d.due("word(" + w + "," + what + ")", x.word(w, what), want[w][what]);
            }
        }
        d.due("word(19,0)", x.word(19, 0), NONE);
        d.due("word(20,0)", x.word(20, 0), BAD);
        d.due("word(-1,0)", x.word(-1, 0), BAD);
        d.due("word(0,5)", x.word(0, 5), BAD);
        d.due("word(0,-1)", x.word(0, -1), BAD);
        x.prior(1);
        d.due("word(0,0) of PRIOR", x.word(0, 0), NONE);
        d.due("word(0,1) of PRIOR", x.word(0, 1), 0);
        d.due("word(0,4) of PRIOR", x.word(0, 4), 2);
        x = withBooks("a", "a", "a", "a", "a", "a", "a");
        d.due("word(0,1)", x.word(0, 1), 7);
    }

    private static void told() {
        d.part("promise 12");
        ReadingStages x = withBooks("t", "ab", "c");
        x.ahead(2, 0);
        x.ahead(1, 0);
        x.move(0, 2);
        d.due("told(0,0)", x.told(0, 0), 524288);
        d.due("told(0,1)", x.told(0, 1), 0);
        d.due("told(0,2)", x.told(0, 2), 6);
        d.due("told(0,3)", x.told(0, 3), 2);
        d.due("told(2,1)", x.told(2, 1), 1);
        d.due("told(2,3)", x.told(2, 3), 1);
        d.due("told(3,0)", x.told(3, 0), BAD);
        d.due("told(-1,0)", x.told(-1, 0), BAD);
        d.due("told(0,4)", x.told(0, 4), BAD);
        d.due("told(0,-1)", x.told(0, -1), BAD);
    }

    private static void count() {
        d.part("promise 13");
        ReadingStages x = withBooks("abcdef", "a", "b", "c");
        x.ahead(1, 0);
        x.tell(0, 1);
        x.tell(2, 2);
        x.prior(setOf("f"));
        // Read: 5 NEW; b .. e LOST, a has 2; b NEW; a and b LOST, c NEW.
        int[] want = {4, 32, 1, 5, 2, 123, 5, 6, 0, 0, 6};
        for (int what = 0; what < 11; what++) {
            d.due("count(" + what + ")", x.count(what), want[what]);
        }
        x.move(1, 0);
        d.due("count(8)", x.count(8), 1);
        d.due("count(6)", x.count(6), 4);
        d.due("count(9)", x.count(9), 1);
        x.tell(1, 4);
        d.due("count(9) at the bound", x.count(9), 1);
        x.tell(1, 3);
        d.due("count(9) above it", x.count(9), 0);
        d.due("count(11)", x.count(11), BAD);
        d.due("count(-1)", x.count(-1), BAD);
        d.due("count(MIN)", x.count(MIN), BAD);
    }

    private static void best() {
        d.part("promise 14, best");
        ReadingStages x = withBooks("abc", "a");
        int[] want = {10, 2, 0, 10, 2, 0};
        for (int what = 0; what < 6; what++) {
            d.due("best(" + what + ")", x.best(what), want[what]);
        }
        d.due("best(6)", x.best(6), BAD);
        d.due("best(-1)", x.best(-1), BAD);
        // PEAK is 1 in each ORDER: LOSS decides, then the number.
        x = withBooks("a", "b", "a");
        x.tell(0, 1);
        // 012: a lost at 1, b at 2 (2); 021: a lost at 2 (1); 102: b lost at 1 (1); 120: as 102; 201 as 021; 210: 2.
        d.due("best(0)", x.best(0), 21);
        d.due("best(2)", x.best(2), 1);
        x.ahead(1, 0);
        d.due("best(0) that HOLDS", x.best(0), 102);
        x.ahead(2, 1);
        d.due("best(0) that HOLDS", x.best(0), 210);
        d.due("best(2)", x.best(2), 2);
        d.due("count(5) stays", x.count(5), 12);
        x = new ReadingStages();
        for (int what = 0; what < 6; what++) {
            d.due("best(" + what + ") of none", x.best(what), 0);
        }
    }

    private static void grown() {
        d.part("promise 14, grown");
        // d (1 new) first; then of abd, ade (2 new, 1 again) the least; then ade (1 new).
        ReadingStages x = withBooks("abd", "ade", "d");
        d.due("best(3)", x.best(3), 201);
        d.due("best(4)", x.best(4), 2);
        d.due("best(5)", x.best(5), 0);
        // Of like ones which meets the most again: abc meets two, d none; each brings one.
        x = withBooks("ab", "d", "abc");
        x.ahead(0, 1);
        x.ahead(0, 2);
        d.due("best(3) by again", x.best(3), 21);
        x.ahead(1, 2);
        d.due("best(3) by ahead", x.best(3), 12);
        // One that is AHEAD of another but comes later in number holds it back.
        x = withBooks("a", "bcd");
        x.ahead(1, 0);
        d.due("best(3)", x.best(3), 10);
        d.due("best(4)", x.best(4), 3);
        // A word that is lost is new again.
        x = withBooks("a", "b", "a");
        x.tell(0, 1);
        d.due("best(3)", x.best(3), 21);
        d.due("best(5)", x.best(5), 1);
    }

    private static void many() {
        d.part("promise 15");
        ReadingStages x = withBooks("abc", "a", "bd");
        d.due("many(0)", x.many(0), 6);
        d.due("many(1)", x.many(1), 6);
        x.tell(1, 2);
        // Those that do not begin with 0, and bring no more than 2: 102, 120, 201, 210.
        d.due("many(1)", x.many(1), 4);
        x.ahead(2, 0);
        d.due("many(0)", x.many(0), 3);
        d.due("many(1)", x.many(1), 3);
        x.tell(1, 0);
        d.due("many(1)", x.many(1), 0);
        d.due("many(2)", x.many(2), BAD);
        d.due("many(-1)", x.many(-1), BAD);
        x = withBooks("a", "b", "c", "d", "e", "f", "g");
        d.due("many(0) of 7", x.many(0), 5040);
        d.due("many(1) of 7", x.many(1), 5040);
        x = new ReadingStages();
        d.due("many(0) of none", x.many(0), 1);
    }

    private static void fit() {
        d.part("promise 16");
        ReadingStages x = withBooks("abc", "a", "bd");
        x.tell(1, 2);
        int[] want = {102, 120, 201, 210, NONE};
        for (int k = 0; k < 5; k++) {
            d.due("fit(" + k + ")", x.fit(k), want[k]);
        }
        x.ahead(2, 0);
        d.due("fit(0)", x.fit(0), 120);
        d.due("fit(2)", x.fit(2), 210);
        d.due("fit(3)", x.fit(3), NONE);
        d.due("fit(MAX)", x.fit(MAX), NONE);
        d.due("fit(-1)", x.fit(-1), BAD);
        d.due("fit(MIN)", x.fit(MIN), BAD);
        x = withBooks("a", "b", "c", "d", "e", "f", "g");
        d.due("fit(0)", x.fit(0), 123456);
        d.due("fit(5039)", x.fit(5039), 6543210);
        d.due("fit(5040)", x.fit(5040), NONE);
        d.due("fit(720)", x.fit(720), 1023456);
        d.due("fit(0) of none", new ReadingStages().fit(0), 0);
    }

    private static void kept() {
        d.part("promise 17");
        // a at places 0 and 2 of 3, SPAN 2: known at the end, if 2 is read (0 is lost there otherwise).
        ReadingStages x = withBooks("a", "b", "a");
        for (int c = 0; c <= 10; c++) {
            int[] above = {1, 9, 4, 7, 3, 1, 2, 3, 1, 1, 0};
            int[] below = {1, 10, 5, 10, 5, 2, 5, 10, 5, 10, 1};
            d.due("kept(0," + c + ",0)", x.kept(0, c, 0), above[c]);
            d.due("kept(0," + c + ",1)", x.kept(0, c, 1), below[c]);
        }
        // By SPAN 3 one of both is enough: 1 less 0.3 times 0.3.
        x.tell(0, 3);
        d.due("kept(0,3,0)", x.kept(0, 3, 0), 91);
        d.due("kept(0,3,1)", x.kept(0, 3, 1), 100);
        d.due("kept(1,5,0)", x.kept(1, 5, 0), 1);
        d.due("kept(1,5,1)", x.kept(1, 5, 1), 2);
        // GROWING, SPAN 1: known at place 2, if it was met at both places ahead.
        x = withBooks("a", "a", "b");
        x.tell(0, 1);
        x.tell(2, 1);
        d.due("kept(0,1,0)", x.kept(0, 1, 0), 81);
        d.due("kept(0,1,1)", x.kept(0, 1, 1), 100);
        x.prior(1);
        d.due("kept(0,1,0) of PRIOR", x.kept(0, 1, 0), 0);
        d.due("kept(0,1,1) of PRIOR", x.kept(0, 1, 1), 1);
        int[][] bad = {{20, 5, 0}, {-1, 5, 0}, {0, 11, 0}, {0, -1, 0}, {0, 5, 2}, {0, 5, -1}};
        for (int[] b : bad) {
            d.due("kept(" + b[0] + "," + b[1] + "," + b[2] + ")", x.kept(b[0], b[1], b[2]), BAD);
        }
        // All seven, SPAN 4: known, if one of the last four is read: 1 less 0.9 to the 4th.
        x = withBooks("a", "a", "a", "a", "a", "a", "a");
        x.tell(0, 4);
        d.due("kept(0,9,0)", x.kept(0, 9, 0), 3439);
        d.due("kept(0,9,1)", x.kept(0, 9, 1), 10000);
    }

    private static void letter() {
        d.part("promise 18");
        note(new ReadingStages(), "none");
        ReadingStages x = withBooks("abcdefghijkl", "ab", "m", "n");
        note(x, "0+12 1+0 2+1-10 3+1-2");
        x.move(3, 0);
        note(x, "3+1 0+12 1+0-1 2+1-10");
        d.due("letter(-1)", x.letter(-1), BAD);
        d.due("letter(MIN)", x.letter(MIN), BAD);
        d.due("letter(MAX)", x.letter(MAX), NONE);
        x = withBooks("abcdefghijklmnopqrst");
        note(x, "0+20");
    }

    private static void type() {
        d.part("promise 19");
        ReadingStages x = new ReadingStages();
        for (int letter : new int[] {31, 127, -1, 0, MAX, MIN, 65536 + 'a'}) {
            d.due("type(" + letter + ")", x.type(letter), BAD);
        }
        d.due("type(32)", x.type(32), 1);
        d.due("type(126)", x.type(126), 2);
        for (int i = 3; i <= 90; i++) {
            d.due("type", x.type('a'), i);
        }
        d.due("type", x.type('a'), FULL);
        d.due("type(31)", x.type(31), BAD);
        d.due("read()", x.read(), -21);
        d.due("type", x.type('a'), 1);
    }

    private static void readTexts() {
        d.part("promise 20");
        ReadingStages x = withBooks("a", "b", "c");
        x.prior(8);
        x.tell(1, 7);
        x.ahead(0, 1);
        x.move(0, 2);
        d.due("read()", read(x, "growing3:abca,t"), 2);
        int[] want = {2, 8, 3, 7, 1, 1};
        for (int what = 0; what < want.length; what++) {
            d.due("count(" + what + ")", x.count(what), want[what]);
        }
        d.due("told(0,0)", x.told(0, 0), 7);
        d.due("told(1,0)", x.told(1, 0), 524288);
        d.due("told(0,1)", x.told(0, 1), 0);
        d.due("count(10)", x.count(10), 6);
        d.due("read()", read(x, " steady 1 : a , b , c ; 0 1 , 12 "), 3);
        d.due("told(0,1)", x.told(0, 1), 2);
        d.due("told(1,1)", x.told(1, 1), 4);
        d.due("read()", read(x, "doubling4:a,b,c,d,e,f,g;65,54,43,32,21,10"), 7);
        d.due("many(0)", x.many(0), 1);
        d.due("count(4)", x.count(4), 2);
        d.due("undo()", x.undo(), 5);
        d.due("count(0)", x.count(0), 3);
        d.due("a text told again may be undone", read(x, "steady1:a,b,c;01,12"), 3);
        d.due("count(10)", x.count(10), 6);
    }

    private static void readFaults() {
        d.part("promise 20, faults");
        String[] texts = {
            "", "  ", "5", "stead2:a", "  stead2:a", "steadyz2:a", "Steady2:a", "stea dy2:a", "steady", "steady ",
            "steady0:a", "steady5:a", "steadyX2:a", "steady22:a", "steady2", "steady2a", "steady2 :", "steady2:  ",
            "steady2:,", "steady2:u", "steady2:au", "steady2:a1", "steady2:a b", "steady2:a,", "steady2:a,;",
            "steady2:a,b,c,d,e,f,g,h", "steady2:a,b,c,d,e,f,g, ", "steady2:a,b,c,d,e,f,g,1", "steady2:a;",
            "steady2:a,b;2", "steady2:a,b;x", "steady2:a,b;0", "steady2:a,b;0 ", "steady2:a,b;00", "steady2:a,b;02",
            "steady2:a,b;0,", "steady2:a,b;01,10", "steady2:a,b;01,01", "steady2:a,b;01 ,0 1", "steady2:a,b;01,",
            "steady2:a,b;01;", "steady2:a,b;012", "steady2:a,b,c;01,12,20", "steady2:A"};
        int[] places = {
            0, 2, 0, 0, 2, 0, 0, 0, 6, 7,
            6, 6, 6, 7, 7, 7, 9, 10,
            8, 8, 9, 9, 10, 10, 10,
            22, 23, 22, 10,
            12, 12, 13, 14, 13, 13,
            13, 16, 16, 18, 15,
            14, 14, 21, 8};
        d.due("as many", texts.length, places.length);
        for (int i = 0; i < texts.length; i++) {
            ReadingStages x = withBooks("ab", "c");
            x.ahead(1, 0);
            x.tell(0, 4);
            x.tell(2, 2);
            d.due("read() of \"" + texts[i] + "\"", read(x, texts[i]), -20 - places[i]);
            int[] want = {2, 0, 4, 5, 2, 1};
            for (int what = 0; what < want.length; what++) {
                d.due("count(" + what + ")", x.count(what), want[what]);
            }
            d.due("told(0,0)", x.told(0, 0), 3);
            d.due("told(1,1)", x.told(1, 1), 1);
            d.due("count(10)", x.count(10), 5);
            d.due("THE TAPE is empty", x.type('a'), 1);
        }
    }

    private static void drift() {
        d.part("promise 21");
        ReadingStages x = new ReadingStages();
        d.due("drift(0)", x.drift(0), BAD);
        d.due("drift(-1)", x.drift(-1), BAD);
        d.due("drift(41)", x.drift(41), BAD);
        d.due("count(10)", x.count(10), 0);
        // 1 goes on to 1103527590, then 2524885223 less 2147483648 = 377401575; x is 16838, of kind 6: tell(0, 16838/8 % 4 + 1).
        d.due("drift(1)", x.drift(1), 0);
        d.due("count(2)", x.count(2), 2104 % 4 + 1);
        d.due("seed", x.seed(9), 377401575);
        d.due("drift(40)", x.drift(40) > 0 ? 1 : 0, 1);
        d.due("count(10)", x.count(10), 6);
        // Turns of one call are as turns of calls of one turn.
        ReadingStages y = new ReadingStages();
        x = new ReadingStages();
        x.seed(4711);
        y.seed(4711);
        x.drift(25);
        for (int i = 0; i < 25; i++) {
            y.drift(1);
        }
        for (int what = 0; what < 11; what++) {
            d.due("count(" + what + ")", x.count(what), y.count(what));
        }
        d.due("THE DRAW", x.seed(0), y.seed(0));
    }

    /** All that may be undone, as a text. */
    private static String everything(ReadingStages x) {
        StringBuilder t = new StringBuilder();
        for (int what = 0; what < 10; what++) {
            t.append(x.count(what)).append(' ');
        }
        for (int k = 0; k < 7; k++) {
            t.append(x.told(k, 0)).append(' ').append(x.told(k, 1)).append(' ').append(x.told(k, 2)).append(' ');
        }
        int draw = x.seed(0);
        x.seed(draw);
        return t.append(draw).toString();
    }

    private static void driftByCalls() {
        d.part("promise 21, by calls");
        for (int seed = 0; seed < 40; seed++) {
            ReadingStages x = new ReadingStages();
            ReadingStages y = new ReadingStages();
            x.seed(seed);
            long draw = seed;
            for (int i = 0; i < 40; i++) {
                draw = (draw * 1103515245L + 12345L) % (1L << 31);
                int v = (int) (draw / 65536);
                draw = (draw * 1103515245L + 12345L) % (1L << 31);
                int s = (int) (draw / 2048) % 1048576;
                switch (v % 8) {
                    case 0: case 1: y.book(s); break;
                    case 2: y.words(v / 8 % 7, s); break;
                    case 3: y.ahead(v / 8 % 7, v / 64 % 7); break;
                    case 4: case 5: y.move(v / 8 % 7, v / 64 % 7); break;
                    case 6: y.tell(0, v / 8 % 4 + 1); break;
                    default: y.tell(2, v / 8 % 3); break;
                }
            }
            d.due("drift(40)", x.drift(40), y.count(0));
            y.seed((int) draw);
            d.holds("seed " + seed + ": as by calls", everything(x).equals(everything(y)));
        }
    }

    private static int change(ReadingStages x, int kind) {
        switch (kind) {
            case 0: return x.book(9);
            case 1: return x.words(1, 9);
            case 2: return x.lose(0);
            case 3: return x.ahead(2, 0);
            case 4: return x.ahead(0, 1);
            case 5: return x.prior(2);
            case 6: return x.tell(0, 1);
            case 7: return x.tell(1, 1);
            case 8: return x.tell(2, 1);
            case 9: return x.move(2, 0);
            case 10: return x.settle(0);
            case 11: return x.settle(1);
            case 12: return read(x, "doubling3:a,b,c;01");
            default: return x.drift(1);
        }
    }

    private static void undoOfEach() {
        d.part("promises 22, 24, of each change");
        for (int first = 0; first < 14; first++) {
            for (int second = 0; second < 14; second++) {
                ReadingStages x = withBooks("abc", "ab", "c", "d");
                x.ahead(0, 1);
                x.seed(6);
                String start = everything(x);
                if (change(x, first) < 0) {
                    continue;
                }
                String between = everything(x);
                d.holds("change " + first, !between.equals(start));
                d.due("count(10)", x.count(10), 6);
                x.seed(12345);
                x.image();
                if (change(x, second) >= 0) {
                    d.due("undo()", x.undo(), 5);
                }
                x.seed(6);
                d.holds("undo of " + second + " behind " + first, first > 12 || everything(x).equals(between));
                x.drift(9);
                x.restore();
                d.due("restore(), undo()", x.undo(), 5);
                d.holds("undo of " + first, everything(x).equals(start));
            }
        }
    }

    private static void undo() {
        d.part("promise 22");
        ReadingStages x = withBooks("a", "b", "c");
        d.due("seed(77)", x.seed(77), 1);
        x.sheet(0, 0, 5);
        x.type('a');
        d.due("undo()", x.undo(), 2);
        d.due("THE DRAW is as ahead of it", x.seed(5), 1);
        d.due("count(0)", x.count(0), 2);
        d.due("SHEETS stay", x.drop(0), 5);
        d.due("THE TAPE stays", x.type('a'), 2);
        d.due("what is refused is not known", x.book(0), BAD);
        d.due("count(10)", x.count(10), 2);
        x.words(0, 6);
        x.lose(1);
        x.book(5);
        x.ahead(1, 0);
        x.prior(1);
        x.tell(0, 3);
        x.tell(1, 3);
        x.tell(2, 1);
        x.move(0, 1);
        d.due("count(10)", x.count(10), 6);
        d.due("undo() of move", x.undo(), 5);
        d.due("count(5)", x.count(5), 1);
        d.due("undo() of RULE", x.undo(), 4);
        d.due("count(4)", x.count(4), 0);
        d.due("undo() of BOUND", x.undo(), 3);
        d.due("count(3)", x.count(3), 5);
        d.due("undo() of SPAN", x.undo(), 2);
        d.due("count(2)", x.count(2), 2);
        d.due("undo() of PRIOR", x.undo(), 1);
        d.due("count(1)", x.count(1), 0);
        d.due("undo() of AHEAD", x.undo(), 0);
        d.due("told(1,1)", x.told(1, 1), 0);
        d.due("undo() of one that is lost", x.undo(), NONE);
        d.due("count(0)", x.count(0), 2);
        // A turn is undone with its draws, and comes again as it was.
        x = new ReadingStages();
        x.drift(5);
        int n = x.count(0), order = x.count(5), draw = x.seed(0);
        x.seed(draw);
        d.due("undo()", x.undo(), 4);
        d.due("drift(1)", x.drift(1), n);
        d.due("count(5)", x.count(5), order);
        d.due("THE DRAW", x.seed(0), draw);
        // Each turn may be undone, one that is refused, too: move without BOOKS (77 goes on to a kind 5).
        x = new ReadingStages();
        x.seed(77);
        d.due("drift(1)", x.drift(1), 0);
        d.due("count(10)", x.count(10), 1);
        d.due("undo()", x.undo(), 0);
        d.due("seed", x.seed(0), 77);
    }

    private static void seed() {
        d.part("promise 23");
        ReadingStages x = new ReadingStages();
        d.due("seed(-1)", x.seed(-1), BAD);
        d.due("seed(MIN)", x.seed(MIN), BAD);
        d.due("seed(MAX)", x.seed(MAX), 1);
        d.due("seed(0)", x.seed(0), MAX);
        d.due("seed(3)", x.seed(3), 0);
        d.due("count(10)", x.count(10), 0);
    }

    private static void image() {
        d.part("promises 24, 25");
        ReadingStages x = withBooks("a", "b", "c");
        x.seed(99);
        d.due("restore()", x.restore(), NONE);
        d.due("image()", x.image(), 1);
        x.type('a');
        x.sheet(1, 1, 7);
        x.lose(0);
        x.tell(0, 4);
        x.seed(5);
        x.undo();
        d.due("restore()", x.restore(), 1);
        d.due("count(0)", x.count(0), 3);
        d.due("count(2)", x.count(2), 2);
        d.due("count(10)", x.count(10), 3);
        d.due("THE DRAW", x.seed(99), 99);
        d.due("THE TAPE stays", x.type('a'), 2);
        d.due("SHEETS stay", x.drop(1), 7);
        d.due("undo()", x.undo(), 2);
        d.due("undo()", x.undo(), 1);
        x.book(7);
        d.due("restore() again", x.restore(), 1);
        d.due("told(1,0)", x.told(1, 0), 2);
        d.due("undo()", x.undo(), 2);
        d.due("told(1,0)", x.told(1, 0), 2);
        d.due("image() of another", x.image(), 1);
        x.undo();
        d.due("restore()", x.restore(), 1);
        d.due("count(0)", x.count(0), 2);
        d.due("undo() keeps IMAGES", x.undo(), 1);
        d.due("restore()", x.restore(), 1);
        d.due("count(0)", x.count(0), 2);
    }

    private static void seen() {
        d.part("promise 26");
        // Orders of abc, a, bd: 012 brings 3 0 1, 021 3 1 0, 102 1 2 1, 120 1 2 1, 201 2 2 0, 210 2 1 1.
        ReadingStages x = withBooks("abc", "a", "bd");
        x.ahead(0, 1);
        for (int lane = 0; lane < 4; lane++) {
            x.sheet(0, lane, 5);
            int[] items = {99, 1, 2, 1, 0};
            for (int i = 0; i < 5; i++) {
                x.item(0, lane, i, items[i]);
            }
            d.due("seen, if they HOLD or not", x.seen(0, lane, 1), 2);
            d.due("seen(0,lane,2)", x.seen(0, lane, 2), 0);
            d.due("seen of 99", x.seen(0, lane, 0), NOT);
            d.due("seen(0,lane,3)", x.seen(0, lane, 3), INDEX);
            d.due("seen(0,lane,-1)", x.seen(0, lane, -1), INDEX);
            d.due("seen(0,lane,MAX)", x.seen(0, lane, MAX), INDEX);
            d.due("seen(0,lane,MIN)", x.seen(0, lane, MIN), INDEX);
            d.due("seen of another lane", x.seen(0, (lane + 1) % 4, 9), CAST);
            d.due("seen(1,lane,9)", x.seen(1, lane, 9), NULL);
            x.item(0, lane, 1, -1);
            d.due("seen of -1", x.seen(0, lane, 1), NOT);
            x.item(0, lane, 1, 20);
            d.due("seen of 20", x.seen(0, lane, 1), 0);
            x.item(0, lane, 1, 21);
            d.due("seen of 21", x.seen(0, lane, 1), NOT);
        }
        d.due("seen(4,0,0)", x.seen(4, 0, 0), BAD);
        d.due("seen(-1,0,0)", x.seen(-1, 0, 0), BAD);
        d.due("seen(1,4,0)", x.seen(1, 4, 0), BAD);
        d.due("seen(1,-1,0)", x.seen(1, -1, 0), BAD);
        x = new ReadingStages();
        x.sheet(0, 0, 2);
        d.due("seen without BOOKS", x.seen(0, 0, 2), NOT);
        d.due("seen without BOOKS, of no such item", x.seen(0, 0, 3), INDEX);
    }

    private static void film() {
        d.part("promise 27");
        ReadingStages x = withBooks("abc", "a", "bd");
        for (int lane = 0; lane < 4; lane++) {
            x.sheet(2, lane, 4);
            x.item(2, lane, 0, 7);
            d.due("film(2,lane,2)", x.film(2, lane, 2), INDEX);
            d.due("film(2,lane,-1)", x.film(2, lane, -1), INDEX);
            d.due("film(2,lane,MAX)", x.film(2, lane, MAX), INDEX);
            d.due("nothing has come", x.seen(2, lane, 1), 0);
            d.due("film(2,lane,1)", x.film(2, lane, 1), 3);
            d.due("seen(2,lane,1): 3 0 1", x.seen(2, lane, 1), 1);
            x.item(2, lane, 0, 3);
            x.copy(2, 2, 2, 1, 2);
            d.due("seen(2,lane,0): 3 0 1", x.seen(2, lane, 0), 1);
            d.due("film of another lane", x.film(2, (lane + 1) % 4, 9), CAST);
        }
        d.due("film(3,0,9)", x.film(3, 0, 9), NULL);
        d.due("film(4,0,0)", x.film(4, 0, 0), BAD);
        d.due("film(3,4,0)", x.film(3, 4, 0), BAD);
        x = new ReadingStages();
        x.sheet(0, 3, 2);
        d.due("film of none", x.film(0, 3, 2), 0);
        d.due("film of none", x.film(0, 3, 3), INDEX);
        d.due("film of none", x.film(0, 3, -1), INDEX);
        x.sheet(0, 3, 0);
        d.due("film of none", x.film(0, 3, 0), 0);
    }

    private static void sheet() {
        d.part("promise 28");
        ReadingStages x = withBooks("a");
        int[][] bad = {{4, 0, 1}, {-1, 0, 1}, {0, 4, 1}, {0, -1, 1}, {0, 0, 25}, {0, 0, MAX}, {4, 0, -1}, {0, 4, -1}};
        for (int[] b : bad) {
            d.due("sheet(" + b[0] + "," + b[1] + "," + b[2] + ")", x.sheet(b[0], b[1], b[2]), BAD);
        }
        d.due("sheet(0,0,-1)", x.sheet(0, 0, -1), SIZE);
        d.due("sheet(0,0,MIN)", x.sheet(0, 0, MIN), SIZE);
        d.due("nothing yet", x.drop(0), NULL);
        d.due("sheet(3,3,24)", x.sheet(3, 3, 24), 24);
        x.item(3, 3, 23, 1);
        d.due("seen(3,3,23)", x.seen(3, 3, 23), 1);
        d.due("sheet(3,3,24)", x.sheet(3, 3, 24), 24);
        d.due("a new row", x.seen(3, 3, 23), 0);
        x.item(3, 3, 0, 1);
        d.due("sheet(3,3,24)", x.sheet(3, 3, 24), 24);
        d.due("a new row from item 0 on", x.seen(3, 3, 0), 0);
        x.item(3, 3, 0, 1);
        d.due("sheet(3,3,-1)", x.sheet(3, 3, -1), SIZE);
        d.due("the row stays", x.seen(3, 3, 0), 1);
        d.due("sheet(3,1,0)", x.sheet(3, 1, 0), 0);
        d.due("drop(3)", x.drop(3), 0);
    }

    private static void drop() {
        d.part("promise 29");
        ReadingStages x = new ReadingStages();
        d.due("drop(4)", x.drop(4), BAD);
        d.due("drop(-1)", x.drop(-1), BAD);
        d.due("drop(0)", x.drop(0), NULL);
        x.sheet(0, 1, 11);
        d.due("drop(0)", x.drop(0), 11);
        d.due("drop(0)", x.drop(0), NULL);
        d.due("item of nothing", x.item(0, 1, 0, 1), NULL);
    }

    private static void item() {
        d.part("promise 30");
        ReadingStages x = withBooks("abc");
        long[] above = {256, 65536, 1L << 32};
        for (int lane = 0; lane < 4; lane++) {
            x.sheet(1, lane, 2);
            d.due("item", x.item(1, lane, 1, 3), 1);
            d.due("seen", x.seen(1, lane, 1), 1);
            d.due("item", x.item(1, lane, 2, 3), INDEX);
            d.due("item", x.item(1, lane, -1, 3), INDEX);
            d.due("item", x.item(1, lane, MAX, 3), INDEX);
            d.due("item", x.item(1, lane, MIN, 3), INDEX);
            d.due("item", x.item(1, (lane + 1) % 4, 9, 3), CAST);
            d.due("item", x.item(0, lane, 9, 3), NULL);
            d.due("item", x.item(0, 4, 9, 3), BAD);
            d.due("item", x.item(4, lane, 9, 3), BAD);
            for (int l = 0; l < 3; l++) {
                x.item(1, lane, 0, above[l] + 3);
                d.due("lane " + lane + " of " + above[l] + " and 3", x.seen(1, lane, 0), lane <= l ? 1 : NOT);
                x.item(1, lane, 0, above[l] - 1);
                d.due("lane " + lane + " of " + above[l] + " less 1", x.seen(1, lane, 0), NOT);
            }
            x.item(1, lane, 0, Long.MIN_VALUE + 3);
            d.due("lane " + lane + " of the least", x.seen(1, lane, 0), lane < 3 ? 1 : NOT);
        }
    }

    private static void copy() {
        d.part("promise 31");
        ReadingStages x = withBooks("abc", "a", "bd");
        x.sheet(0, 2, 6);
        x.sheet(1, 2, 4);
        x.sheet(2, 1, 4);
        x.film(0, 2, 0);
        d.due("copy to another", x.copy(0, 0, 1, 1, 3), 3);
        d.due("seen(1,2,1)", x.seen(1, 2, 1), 1);
        d.due("copy to the same, behind", x.copy(0, 0, 0, 1, 5), 5);
        d.due("seen(0,2,1)", x.seen(0, 2, 1), 1);
        d.due("copy to the same, ahead", x.copy(0, 1, 0, 0, 5), 5);
        d.due("seen(0,2,0)", x.seen(0, 2, 0), 1);
        d.due("copy(4,..)", x.copy(4, 0, 0, 0, 1), BAD);
        d.due("copy(0,0,-1,..)", x.copy(0, 0, -1, 0, 1), BAD);
        d.due("copy(3,..)", x.copy(3, 9, 0, 9, -1), NULL);
        d.due("copy(..,3,..)", x.copy(0, 9, 3, 9, -1), NULL);
        d.due("copy of unlike lanes", x.copy(0, 9, 2, 9, -1), CAST);
        int[][] index = {{0, 0, 0, 0, -1}, {0, -1, 1, 0, 1}, {0, 0, 1, -1, 1}, {0, 4, 1, 0, 3}, {0, 0, 1, 2, 3},
            {0, 7, 1, 0, 0}, {0, 0, 1, 5, 0}, {0, -1, 1, 0, 0}, {0, 0, 1, -1, 0}, {0, MAX, 1, 0, MAX}, {0, 1, 1, 1, MAX},
            {0, MIN, 1, MIN, MIN}};
        for (int[] c : index) {
            d.due("copy(" + c[0] + "," + c[1] + "," + c[2] + "," + c[3] + "," + c[4] + ")",
                x.copy(c[0], c[1], c[2], c[3], c[4]), INDEX);
        }
        d.due("copy of none", x.copy(0, 6, 1, 4, 0), 0);
        d.due("seen(1,2,1) stays", x.seen(1, 2, 1), 1);
    }

    private static void readme() {
        d.part("README");
        ReadingStages x = new ReadingStages();
        d.due("book", x.book(0b0111), 0);
        d.due("book", x.book(0b1001), 1);
        d.due("ahead", x.ahead(1, 0), 1);
        d.due("best", x.best(0), 10);
        d.due("settle", x.settle(0), 10);
        d.due("place", x.place(1, 1), 2);
        d.due("undo", x.undo(), 3);
    }
}
