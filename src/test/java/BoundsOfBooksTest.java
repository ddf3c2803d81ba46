/** The boundary cases of promises 1 to 13: books, orders. */
public final class BoundsOfBooksTest {
    private static final String NEW = Given.NEW, RICH = Given.RICH, SEVEN = Given.SEVEN, THREE = Given.THREE;
    private static final Bounds b = new Bounds();

    public static void main(String[] args) {
        newObject();
        book();
        words();
        lose();
        ahead();
        prior();
        tell();
        move();
        settle();
        place();
        word();
        told();
        count();
        b.closePromises(1, 13);
    }

    private static void newObject() {
        b.at("Promise 1", "As told.");
        b.run(NEW, "count(0)=0 count(1)=0 count(2)=2 count(3)=5 count(4)=0 count(5)=0 count(6)=0 count(7)=0 count(8)=1"
            + " count(9)=1 count(10)=0");
        b.run(NEW, "seed(1)=1");
        b.run(NEW, "type(97)=1");
        b.refused(NEW, "told(0,0)=BAD place(0,0)=BAD undo()=NONE restore()=NONE read()=-20");
        b.refused(NEW, "drop(0)=NULL drop(1)=NULL drop(2)=NULL drop(3)=NULL");
    }

    private static void book() {
        b.at("Promise 2", "A BOOK more, the last one in THE ORDER: its number.");
        b.run(NEW, "book(1)=0 count(0)=1 count(5)=0 told(0,0)=1 told(0,1)=0 told(0,2)=0 told(0,3)=0 count(10)=1");
        b.run(RICH, "book(524288)=4 count(0)=5 count(5)=3124 told(4,0)=524288 told(4,1)=0 told(4,2)=0 told(4,3)=4");
        b.run(Given.times(6, "book(1)"), "book(ALL)=6 count(0)=7 count(5)=123456 told(6,0)=1048575 told(6,3)=6");
        // What was ahead of the last one, and behind it, went with it.
        b.run(SEVEN, "ahead(5,6)=1 lose(6)=6 book(1)=6 told(6,1)=0 told(6,2)=0 told(0,2)=0 told(5,1)=0");

        b.at("Promise 2", "BAD: no WORDS, or others than 0 .. 19;");
        b.refused(NEW, "book(0)=BAD book(1048576)=BAD");
        b.refused(RICH, "book(0)=BAD book(-1)=BAD book(1048576)=BAD book(1048577)=BAD book(1073741825)=BAD book(MAX)=BAD"
            + " book(MIN)=BAD book(-2147483647)=BAD");
        b.run(RICH, "book(1)=4 book(1048575)=5");

        b.at("Promise 2", "FULL.");
        b.refused(SEVEN, "book(1)=FULL book(ALL)=FULL book(64)=FULL");
        b.refused(SEVEN, "book(0)=BAD book(1048576)=BAD");
        b.run(SEVEN, "lose(3)=6 book(1)=6 book(1)=FULL");
    }

    private static void words() {
        b.at("Promise 3", "WORDS of a BOOK become a set: what they were.");
        b.run(RICH, "words(0,1)=7 told(0,0)=1 words(3,ALL)=2 told(3,0)=1048575 words(3,524288)=1048575 told(3,0)=524288");
        b.run(RICH, "words(2,5)=1036 told(2,0)=5 told(2,2)=1 told(2,3)=3 count(5)=312 told(1,0)=9 told(3,0)=2");
        b.run(SEVEN, "words(6,1)=64 told(6,0)=1 told(6,1)=1");

        b.at("Promise 3", "BAD: likewise;");
        b.refused(NEW, "words(0,1)=BAD words(-1,1)=BAD");
        b.refused(RICH, "words(-1,1)=BAD words(4,1)=BAD words(7,1)=BAD words(MAX,1)=BAD words(MIN,1)=BAD");
        b.refused(RICH, "words(0,0)=BAD words(0,-1)=BAD words(0,1048576)=BAD words(0,MAX)=BAD words(0,MIN)=BAD");
        b.refused(SEVEN, "words(7,1)=BAD words(6,0)=BAD");

        b.at("Promise 3", "NOT: it is so.");
        b.refused(RICH, "words(0,7)=NOT words(1,9)=NOT words(2,1036)=NOT words(3,2)=NOT");
        b.refused(SEVEN, "words(6,64)=NOT");
        b.refused("book(ALL)", "words(0,ALL)=NOT");
    }

    private static void lose() {
        b.at("Promise 4", "A BOOK is lost; those behind get numbers less, in THE ORDER, too: how many are left.");
        // The first, the last, one between; THE ORDER is 0312.
        b.run(RICH, "lose(0)=3 count(5)=201 told(0,0)=9 told(1,0)=1036 told(2,0)=2 told(2,1)=1 told(0,2)=4 told(1,2)=0");
        b.run(RICH, "lose(3)=3 count(5)=12 told(0,0)=7 told(1,0)=9 told(2,0)=1036 told(0,1)=4 told(2,2)=1 told(1,2)=0");
        b.run(RICH, "lose(1)=3 count(5)=21 told(0,0)=7 told(1,0)=1036 told(2,0)=2 told(0,1)=2 told(1,2)=1 told(2,1)=0");
        b.run(RICH, "lose(2)=3 count(5)=21 told(0,1)=0 told(2,1)=2 told(1,2)=4");
        b.run(SEVEN, "lose(6)=6 count(5)=12345 told(0,2)=0 told(5,0)=32 told(6,0)=BAD");
        b.run(SEVEN, "lose(1)=6 told(5,1)=1 told(0,2)=32 told(5,0)=64 count(5)=12345");
        b.run(SEVEN, "lose(0)=6 told(5,1)=0 told(5,2)=0 told(0,2)=0 told(0,0)=2");
        // What was ahead by way of the lost one is so no more.
        b.run("book(1) book(2) book(4) ahead(0,1) ahead(1,2)", "lose(1)=2 told(0,1)=0 ahead(1,0)=1");
        b.run("book(1)", "lose(0)=0 count(0)=0 count(5)=0 count(6)=0 book(5)=0 told(0,0)=5");

        b.at("Promise 4", "BAD.");
        b.refused(NEW, "lose(0)=BAD lose(-1)=BAD");
        b.refused(RICH, "lose(-1)=BAD lose(4)=BAD lose(7)=BAD lose(MAX)=BAD lose(MIN)=BAD");
        b.refused(SEVEN, "lose(7)=BAD lose(-1)=BAD");
        b.refused("book(1) lose(0)", "lose(0)=BAD");
    }

    private static void ahead() {
        b.at("Promise 5", "BOOK a is AHEAD of BOOK b (1), if it was not, or is not (0): so it is then.");
        b.run(RICH, "ahead(0,2)=0 told(0,1)=0 told(2,2)=0 ahead(0,2)=1 told(0,1)=4 told(2,2)=1");
        b.run(RICH, "ahead(3,2)=1 told(3,1)=6 told(2,2)=9 ahead(3,1)=0 told(3,1)=4 told(1,2)=0 told(2,2)=9");
        b.run(SEVEN, "ahead(6,0)=0 ahead(0,6)=1 told(0,1)=64 told(6,2)=1 told(6,1)=0 count(5)=123456");

        b.at("Promise 5", "BAD: also b is a;");
        b.refused(NEW, "ahead(0,0)=BAD ahead(0,1)=BAD");
        b.refused(RICH, "ahead(0,0)=BAD ahead(3,3)=BAD ahead(4,4)=BAD ahead(-1,-1)=BAD");
        b.refused(RICH, "ahead(-1,0)=BAD ahead(0,-1)=BAD ahead(4,0)=BAD ahead(0,4)=BAD ahead(MAX,0)=BAD ahead(0,MIN)=BAD");
        b.refused(SEVEN, "ahead(7,0)=BAD ahead(0,7)=BAD ahead(6,6)=BAD");

        b.at("Promise 5", "NOT: one would be AHEAD of itself.");
        b.refused(RICH, "ahead(2,0)=NOT ahead(1,3)=NOT");
        b.refused(SEVEN, "ahead(0,6)=NOT");
        String chain = "ahead(0,1) ahead(1,2) ahead(2,3) ahead(3,4) ahead(4,5)";
        b.refused(Given.SEVEN_BY_TEXT + " ahead(5,6) " + chain, "ahead(6,0)=NOT ahead(6,4)=NOT ahead(4,2)=NOT");
        String back = "ahead(6,5) ahead(5,4) ahead(4,3) ahead(3,2) ahead(2,1) ahead(1,0)";
        b.refused(Given.SEVEN_BY_TEXT + " " + back, "ahead(0,6)=NOT ahead(0,1)=NOT");
        b.run(Given.SEVEN_BY_TEXT + " " + back, "ahead(6,0)=1 ahead(4,3)=0 ahead(3,5)=1 ahead(0,6)=NOT");
        // Two ways at once: cut one, the other still stands.
        b.run(Given.SEVEN_BY_TEXT, "ahead(0,1)=1 ahead(1,2)=1 ahead(0,3)=1 ahead(3,2)=1 ahead(0,1)=0 ahead(2,0)=NOT"
            + " ahead(0,3)=0 ahead(2,0)=1");
    }

    private static void prior() {
        b.at("Promise 6", "PRIOR becomes a set: what it was.");
        b.run(NEW, "prior(ALL)=0 count(1)=1048575 prior(0)=1048575 count(1)=0 prior(524288)=0 count(1)=524288 prior(1)=524288");
        b.run(RICH, "prior(0)=8 count(1)=0 told(1,0)=9");

        b.at("Promise 6", "BAD;");
        b.refused(RICH, "prior(-1)=BAD prior(1048576)=BAD prior(1048577)=BAD prior(MAX)=BAD prior(MIN)=BAD");

        b.at("Promise 6", "NOT: it is so.");
        b.refused(NEW, "prior(0)=NOT");
        b.refused(RICH, "prior(8)=NOT");
        b.refused("prior(ALL)", "prior(ALL)=NOT");
    }

    private static void tell() {
        b.at("Promise 7", "SPAN (what 0), BOUND (1), RULE (2) becomes v: what it was.");
        b.run(NEW, "tell(0,1)=2 count(2)=1 tell(0,4)=1 count(2)=4 count(3)=5 count(4)=0");
        b.run(NEW, "tell(1,0)=5 count(3)=0 tell(1,20)=0 count(3)=20 count(2)=2 count(4)=0");
        b.run(NEW, "tell(2,2)=0 count(4)=2 tell(2,1)=2 tell(2,0)=1 count(4)=0 count(2)=2 count(3)=5");

        b.at("Promise 7", "BAD;");
        b.refused(RICH, "tell(0,0)=BAD tell(0,5)=BAD tell(0,-1)=BAD tell(0,MAX)=BAD tell(0,MIN)=BAD");
        b.refused(RICH, "tell(1,-1)=BAD tell(1,21)=BAD tell(1,MAX)=BAD tell(1,MIN)=BAD");
        b.refused(RICH, "tell(2,-1)=BAD tell(2,3)=BAD tell(2,MAX)=BAD tell(2,MIN)=BAD");
        b.refused(RICH, "tell(3,1)=BAD tell(-1,1)=BAD tell(MAX,1)=BAD tell(MIN,1)=BAD");
        b.refused(NEW, "tell(0,0)=BAD tell(1,21)=BAD tell(2,3)=BAD tell(3,2)=BAD");

        b.at("Promise 7", "NOT: it is so.");
        b.refused(NEW, "tell(0,2)=NOT tell(1,5)=NOT tell(2,0)=NOT");
        b.refused(RICH, "tell(0,3)=NOT tell(1,4)=NOT tell(2,1)=NOT");
        b.refused("tell(0,1) tell(1,0) tell(2,2)", "tell(0,1)=NOT tell(1,0)=NOT tell(2,2)=NOT");
        b.refused("tell(0,4) tell(1,20)", "tell(0,4)=NOT tell(1,20)=NOT");
    }

    private static void move() {
        b.at("Promise 8", "The BOOK at PLACE p of THE ORDER comes to PLACE q, those between move by one: which BOOK it is.");
        b.run(RICH, "move(0,3)=0 count(5)=3120 move(3,0)=0 count(5)=312 move(1,2)=3 count(5)=132 move(2,1)=3 count(5)=312");
        b.run(SEVEN, "move(0,6)=0 count(5)=1234560 move(5,1)=6 count(5)=1623450 move(6,0)=0 count(5)=162345");
        b.run("book(1) book(2)", "move(0,1)=0 count(5)=10 move(0,1)=1 count(5)=1");

        b.at("Promise 8", "BAD;");
        b.refused(NEW, "move(0,0)=BAD move(0,1)=BAD");
        b.refused(RICH, "move(-1,0)=BAD move(0,-1)=BAD move(4,0)=BAD move(0,4)=BAD move(MAX,0)=BAD move(0,MIN)=BAD");
        b.refused(RICH, "move(4,4)=BAD move(-1,-1)=BAD");
        b.refused(SEVEN, "move(7,0)=BAD move(0,7)=BAD");

        b.at("Promise 8", "NOT: q is p.");
        b.refused(RICH, "move(0,0)=NOT move(3,3)=NOT move(1,1)=NOT");
        b.refused("book(1)", "move(0,0)=NOT");
    }

    private static void settle() {
        b.at("Promise 9", "THE ORDER becomes BEST (what 0), GROWN (1): that, as a number.");
        // In both b, a, abc, ck: one new word at each place.
        b.run(RICH, "settle(0)=3102 count(5)=3102 told(0,3)=2 count(6)=1");
        b.run(RICH, "settle(1)=3102 count(5)=3102 told(3,3)=0");
        // a, b, c, a: GROWN takes what brings nothing new, 0312; in 0132 but b is lost, too (at the last place), and it is less.
        b.run("book(1) book(2) book(4) book(1)", "settle(0)=132 count(5)=132 settle(1)=312 count(5)=312 settle(0)=132");
        // A number that begins with 0 is told without it.
        b.run("book(1) book(3) move(0,1)", "settle(0)=1 count(5)=1");

        b.at("Promise 9", "BAD;");
        b.refused(NEW, "settle(2)=BAD settle(-1)=BAD");
        b.refused(RICH, "settle(2)=BAD settle(-1)=BAD settle(MAX)=BAD settle(MIN)=BAD");
        b.refused("book(1)", "settle(2)=BAD settle(-1)=BAD");

        b.at("Promise 9", "NOT: it is so, or there is no BOOK.");
        b.refused(NEW, "settle(0)=NOT settle(1)=NOT");
        b.refused("book(1) lose(0)", "settle(0)=NOT settle(1)=NOT");
        b.refused("book(1)", "settle(0)=NOT settle(1)=NOT");
        b.refused(RICH + " settle(0)", "settle(0)=NOT settle(1)=NOT");
        b.refused(RICH + " settle(1)", "settle(0)=NOT settle(1)=NOT");
    }

    private static void place() {
        b.at("Promise 10", "At PLACE p of THE ORDER: 0 the BOOK, how many WORDS are 1 NEW, 2 met AGAIN, 3 LOST, which ones are"
            + " 4 NEW, 5 LOST, 6 of a STRENGTH above 0 behind it (sets).");
        // abc, b, ac (but d), ck (but d), SPAN 3: the first PLACE and the last.
        b.run(RICH, "place(0,0)=0 place(0,1)=3 place(0,2)=0 place(0,3)=0 place(0,4)=7 place(0,5)=0 place(0,6)=7");
        b.run(RICH, "place(3,0)=2 place(3,1)=1 place(3,2)=1 place(3,3)=0 place(3,4)=1024 place(3,5)=0 place(3,6)=1031");
        // SPAN 1: each word is lost a place behind, but for the last one.
        b.run(SEVEN + " tell(0,1)", "place(0,6)=1 place(6,0)=6 place(6,1)=1 place(6,2)=0 place(6,3)=1 place(6,4)=64"
            + " place(6,5)=32 place(6,6)=64");
        b.run("book(ALL)", "place(0,1)=20 place(0,4)=1048575 place(0,6)=1048575 prior(ALL)=0 place(0,1)=0 place(0,2)=0"
            + " place(0,3)=0 place(0,4)=0 place(0,5)=0 place(0,6)=0");
        b.run("book(ALL) book(ALL) book(1) tell(0,1)", "place(1,2)=20 place(1,6)=1048575 place(2,2)=1 place(2,3)=19"
            + " place(2,5)=1048574 place(2,6)=1");

        b.at("Promise 10", "BAD.");
        b.refused(NEW, "place(0,0)=BAD place(-1,0)=BAD");
        b.refused(RICH, "place(-1,0)=BAD place(4,0)=BAD place(MAX,0)=BAD place(MIN,0)=BAD");
        b.refused(RICH, "place(0,-1)=BAD place(0,7)=BAD place(0,MAX)=BAD place(0,MIN)=BAD");
        b.refused(SEVEN, "place(7,0)=BAD place(6,7)=BAD");
        b.run(SEVEN, "place(6,0)=6");
    }

    private static void word() {
        b.at("Promise 11", "Of a WORD in THE ORDER: 0 the first PLACE at which it is NEW (NONE), 1 STRENGTH behind all, 2 how"
            + " often it is NEW, 3 how often LOST, 4 in how many BOOKS it is.");
        b.run(RICH, "word(0,0)=0 word(0,1)=2 word(0,2)=1 word(0,3)=0 word(0,4)=2");
        b.run(RICH, "word(10,0)=3 word(10,1)=1 word(10,2)=1 word(10,3)=0 word(10,4)=1");
        b.refused(RICH, "word(19,0)=NONE word(3,0)=NONE");
        b.run(RICH, "word(19,1)=0 word(19,2)=0 word(19,3)=0 word(19,4)=0 word(3,1)=0 word(3,2)=0 word(3,3)=0 word(3,4)=2");
        b.run(NEW, "word(0,0)=NONE word(19,0)=NONE word(0,1)=0 word(0,2)=0 word(0,3)=0 word(0,4)=0");
        // Word 19 by SPAN 1 in books 0, 2, 4, 6: NEW four times, lost three times.
        String often = "book(524288) book(1) book(524288) book(1) book(524288) book(1) book(524288) tell(0,1)";
        b.run(often, "word(19,0)=0 word(19,1)=1 word(19,2)=4 word(19,3)=3 word(19,4)=4 word(0,0)=1 word(0,2)=3 word(0,3)=3"
            + " word(0,1)=0");
        b.run(Given.times(7, "book(524288)"), "word(19,0)=0 word(19,1)=7 word(19,2)=1 word(19,3)=0 word(19,4)=7");
        b.run(SEVEN, "word(6,0)=6 word(6,1)=1 word(7,0)=NONE word(7,2)=0");
        // What a lost BOOK brought is not brought any longer.
        b.run(SEVEN, "word(6,0)=6 word(4,3)=1 lose(6)=6 word(6,0)=NONE word(6,1)=0 word(6,2)=0 word(6,4)=0 word(4,3)=0");

        b.at("Promise 11", "BAD.");
        b.refused(NEW, "word(20,0)=BAD word(-1,0)=BAD");
        b.refused(RICH, "word(-1,0)=BAD word(20,0)=BAD word(32,0)=BAD word(MAX,0)=BAD word(MIN,0)=BAD");
        b.refused(RICH, "word(0,-1)=BAD word(0,5)=BAD word(0,MAX)=BAD word(0,MIN)=BAD");
    }

    private static void told() {
        b.at("Promise 12", "Of a BOOK: 0 its WORDS, 1 BOOKS of which it is AHEAD, 2 BOOKS that are AHEAD of it (sets), 3 its"
            + " PLACE in THE ORDER.");
        b.run(RICH, "told(0,0)=7 told(0,1)=4 told(0,2)=0 told(0,3)=0 told(3,0)=2 told(3,1)=2 told(3,2)=0 told(3,3)=1");
        b.run(RICH, "told(2,0)=1036 told(2,1)=0 told(2,2)=1 told(2,3)=3");
        b.run(SEVEN, "told(6,0)=64 told(6,1)=1 told(6,2)=0 told(6,3)=6 told(0,2)=64 move(6,0)=6 told(6,3)=0 told(5,3)=6");
        // Only those told, none by others in between.
        b.run(THREE, "ahead(1,2)=1 told(0,1)=2 told(1,1)=4 told(1,2)=1 told(2,2)=2");
        b.run(Given.SEVEN_BY_TEXT, "ahead(0,1)=1 ahead(0,2)=1 ahead(0,3)=1 ahead(0,4)=1 ahead(0,5)=1 ahead(0,6)=1 told(0,1)=126"
            + " told(6,2)=1");

        b.at("Promise 12", "BAD.");
        b.refused(NEW, "told(0,0)=BAD told(-1,0)=BAD");
        b.refused(RICH, "told(-1,0)=BAD told(4,0)=BAD told(MAX,0)=BAD told(MIN,0)=BAD");
        b.refused(RICH, "told(0,-1)=BAD told(0,4)=BAD told(0,MAX)=BAD told(0,MIN)=BAD");
        b.refused(SEVEN, "told(7,0)=BAD told(6,4)=BAD");
    }

    private static void count() {
        b.at("Promise 13", "0 n, 1 PRIOR, 2 SPAN, 3 BOUND, 4 RULE, 5 THE ORDER, 6 its PEAK, 7 its LOSS, 8 whether it HOLDS (1,"
            + " 0), 9 whether it FITS, 10 what may be UNDONE.");
        b.run(RICH, "count(0)=4 count(1)=8 count(2)=3 count(3)=4 count(4)=1 count(5)=312 count(6)=3 count(7)=0 count(8)=1"
            + " count(9)=1 count(10)=6");
        b.run(SEVEN, "count(0)=7 count(5)=123456 count(6)=1 count(7)=5 count(8)=0 count(9)=0 count(10)=6");
        b.run(SEVEN, "move(6,0)=6 count(5)=6012345 count(8)=1 count(9)=1 tell(1,0)=5 count(8)=1 count(9)=0");
        b.run("book(31)", "count(6)=5 count(9)=1 words(0,63)=31 count(6)=6 count(8)=1 count(9)=0 tell(1,6)=5 count(9)=1");
        b.run("book(ALL) tell(1,20)", "count(6)=20 count(9)=1 tell(1,19)=20 count(9)=0");
        b.run(Given.times(5, "book(1)"), "count(10)=5 book(1)=5 count(10)=6 book(1)=6 count(10)=6");

        b.at("Promise 13", "BAD.");
        b.refused(NEW, "count(-1)=BAD count(11)=BAD");
        b.refused(RICH, "count(-1)=BAD count(11)=BAD count(MAX)=BAD count(MIN)=BAD");
    }
}
