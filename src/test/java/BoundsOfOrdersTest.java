/** The boundary cases of promises 14 to 18: all orders. */
public final class BoundsOfOrdersTest {
    private static final String NEW = Given.NEW, RICH = Given.RICH, SEVEN = Given.SEVEN;
    private static final Bounds b = new Bounds();

    public static void main(String[] args) {
        best();
        many();
        fit();
        kept();
        letter();
        b.closePromises(14, 18);
    }

    private static void best() {
        b.at("Promise 14", "BEST: 0 as a number, 1 PEAK, 2 LOSS; 3 GROWN as a number, 4 its PEAK, 5 its LOSS.");
        b.run(NEW, "best(0)=0 best(1)=0 best(2)=0 best(3)=0 best(4)=0 best(5)=0");
        b.run("book(ALL)", "best(0)=0 best(1)=20 best(2)=0 best(3)=0 best(4)=20 best(5)=0");
        b.run(RICH, "best(0)=3102 best(1)=1 best(2)=0 best(3)=3102 best(4)=1 best(5)=0");
        // One word a book, SPAN 2: all but the last two words are lost in each order; 6 must come ahead of 0.
        b.run(SEVEN, "best(0)=1234560 best(1)=1 best(2)=5 best(3)=1234560 best(4)=1 best(5)=5");
        b.run("book(1) book(2) book(4) book(1)", "best(0)=132 best(1)=1 best(2)=1 best(3)=312 best(4)=1 best(5)=1");
        // abd, d, c by SPAN 1: GROWN takes d, then c (one new word instead of two), so that d is lost; BEST c, d, then abd.
        b.run("book(11) book(8) book(4) tell(0,1)", "best(0)=210 best(1)=2 best(2)=1 best(3)=120 best(4)=3 best(5)=2");
        // BOUND is no bound of BEST; one order alone HOLDS.
        b.run("book(1) book(1023) ahead(1,0) tell(1,0)", "best(0)=10 best(1)=10 best(2)=0 best(3)=10 best(4)=10 best(5)=0");
        // PEAK counts more than LOSS, LOSS more than the number: 021 loses one word, 012 both.
        b.run("book(1) book(2) book(1) tell(0,1)", "best(0)=21 best(1)=1 best(2)=1");
        // THE ORDER and what may be undone stay.
        b.same(RICH + " best(0) best(1) best(2) best(3) best(4) best(5)", RICH);

        b.at("Promise 14", "BAD.");
        b.refused(NEW, "best(-1)=BAD best(6)=BAD");
        b.refused(RICH, "best(-1)=BAD best(6)=BAD best(MAX)=BAD best(MIN)=BAD");
    }

    private static void many() {
        b.at("Promise 15", "How many ORDERS HOLD (what 0), FIT (1).");
        b.run(NEW, "many(0)=1 many(1)=1 tell(1,0)=5 many(1)=1");
        b.run("book(1)", "many(0)=1 many(1)=1 tell(1,0)=5 many(0)=1 many(1)=0 tell(1,1)=0 many(1)=1");
        b.run(Given.SEVEN_BY_TEXT, "many(0)=5040 many(1)=5040 ahead(6,0)=1 many(0)=2520 many(1)=2520 tell(1,0)=5 many(1)=0");
        b.run(SEVEN + " ahead(0,1) ahead(1,2) ahead(2,3) ahead(3,4) ahead(4,5)", "many(0)=1 many(1)=1 best(0)=6012345");
        b.run("book(ALL) book(ALL) tell(1,20)", "many(1)=2 tell(1,19)=20 many(1)=0 many(0)=2");
        // Those that begin with 0 bring 3 at once: 4 of 6 bring at most 2.
        b.run("book(7) book(1) book(10)", "many(0)=6 many(1)=6 tell(1,3)=5 many(1)=6 tell(1,2)=3 many(1)=4 tell(1,1)=2 many(1)=0");
        b.run(RICH, "many(0)=6 many(1)=6 prior(ALL)=8 tell(1,0)=4 many(1)=6");

        // Whatever was asked ahead of it, it is not of the rows of seen, or of what FITS.
        b.run("book(7) book(1) book(10) sheet(0,0,3) item(0,0,0,3)", "seen(0,0,0)=0 many(0)=6 tell(1,2)=5 many(1)=4 many(0)=6"
            + " fit(9)=NONE"
            + " many(0)=6 best(0)=102 many(1)=4");

        b.at("Promise 15", "BAD.");
        b.refused(NEW, "many(-1)=BAD many(2)=BAD");
        b.refused(RICH, "many(-1)=BAD many(2)=BAD many(MAX)=BAD many(MIN)=BAD");
    }

    private static void fit() {
        b.at("Promise 16", "The k-th ORDER (0 on) that FITS, the least number first;");
        b.run(NEW, "fit(0)=0");
        b.run("book(1)", "fit(0)=0 fit(1)=NONE tell(1,1)=5 fit(0)=0");
        b.run(Given.SEVEN_BY_TEXT, "fit(0)=123456 fit(1)=123465 fit(719)=654321 fit(720)=1023456 fit(5038)=6543201"
            + " fit(5039)=6543210");
        b.run("book(7) book(1) book(10) tell(1,2)", "fit(0)=102 fit(1)=120 fit(2)=201 fit(3)=210 ahead(0,1)=1 fit(0)=201"
            + " fit(1)=NONE");
        b.run(RICH, "fit(0)=231 fit(1)=312 fit(2)=321 fit(3)=3012 fit(4)=3021 fit(5)=3102");

        b.at("Promise 16", "NONE: not so many.");
        b.refused(NEW, "fit(1)=NONE fit(MAX)=NONE");
        b.refused(RICH, "fit(6)=NONE fit(24)=NONE fit(MAX)=NONE");
        b.refused(Given.SEVEN_BY_TEXT, "fit(5040)=NONE fit(5041)=NONE fit(MAX)=NONE");
        b.refused("book(1) tell(1,0)", "fit(0)=NONE");

        b.at("Promise 16", "BAD: below 0.");
        b.refused(NEW, "fit(-1)=BAD fit(MIN)=BAD");
        b.refused(RICH, "fit(-1)=BAD fit(-2)=BAD fit(MIN)=BAD");
    }

    private static void kept() {
        b.at("Promise 17", "KEPT of a WORD: above, below.");
        b.run(NEW, "kept(0,0,0)=0 kept(0,0,1)=1 kept(19,10,0)=0 kept(19,10,1)=1");
        // In one book: 10 less c of 10, in lowest terms.
        b.run("book(524288)", "kept(19,0,0)=1 kept(19,0,1)=1 kept(19,1,0)=9 kept(19,1,1)=10 kept(19,2,0)=4 kept(19,2,1)=5"
            + " kept(19,5,0)=1 kept(19,5,1)=2 kept(19,9,0)=1 kept(19,9,1)=10 kept(19,10,0)=0 kept(19,10,1)=1 kept(18,5,0)=0"
            + " kept(18,5,1)=1");
        // In all seven, SPAN 4: known behind all, if one of the last four was read.
        b.run(Given.times(7, "book(1)") + "tell(0,4)", "kept(0,9,0)=3439 kept(0,9,1)=10000 kept(0,1,0)=9999 kept(0,1,1)=10000"
            + " kept(0,0,0)=1 kept(0,0,1)=1 kept(0,10,0)=0 kept(0,10,1)=1");
        // Lost for sure, though each book is read: a at place 0 alone, SPAN 1. Of PRIOR: nothing.
        b.run("book(1) book(2) tell(0,1)", "kept(0,0,0)=0 kept(0,0,1)=1 kept(0,3,0)=0 kept(0,3,1)=1 prior(2)=0 kept(1,0,0)=0"
            + " kept(1,0,1)=1");
        // A place goes by without its book: a of the first is one place back behind all, SPAN 2 or 1.
        b.run("book(1) book(1)", "kept(0,1,0)=99 kept(0,1,1)=100 tell(0,1)=2 kept(0,1,0)=9 kept(0,1,1)=10");

        b.at("Promise 17", "BAD.");
        b.refused(NEW, "kept(20,5,0)=BAD kept(0,11,0)=BAD kept(0,5,2)=BAD");
        b.refused(RICH, "kept(-1,5,0)=BAD kept(20,5,0)=BAD kept(MAX,5,0)=BAD kept(MIN,5,0)=BAD");
        b.refused(RICH, "kept(0,-1,0)=BAD kept(0,11,0)=BAD kept(0,MAX,0)=BAD kept(0,MIN,0)=BAD");
        b.refused(RICH, "kept(0,5,-1)=BAD kept(0,5,2)=BAD kept(0,5,MAX)=BAD kept(0,5,MIN)=BAD");
    }

    private static void letter() {
        b.at("Promise 18", "Letter k (0 on) of THE NOTE;");
        b.note(NEW, "none");
        b.note("book(1) lose(0)", "none");
        b.note("book(ALL)", "0+20");
        b.note("book(ALL) prior(ALL)", "0+0");
        b.note(RICH, "0+3 3+0 1+0 2+1");
        b.note("book(1023) book(2) book(1) tell(0,1)", "0+10 1+0-9 2+1-1");
        // The longest one: seven books, 20 new words and 20 lost ones can't be at each place, 10 can.
        String halves = Given.times(3, "book(1023) book(1047552)") + "book(1023) tell(0,1) move(0,6)";
        b.note(halves, "1+10 2+10-10 3+10-10 4+10-10 5+10-10 6+10-10 0+0");

        b.at("Promise 18", "NONE.");
        b.refused(NEW, "letter(4)=NONE letter(5)=NONE letter(MAX)=NONE");
        b.refused(RICH, "letter(15)=NONE letter(64)=NONE letter(MAX)=NONE");

        b.at("Promise 18", "BAD: below 0.");
        b.refused(NEW, "letter(-1)=BAD letter(MIN)=BAD");
        b.refused(RICH, "letter(-1)=BAD letter(MIN)=BAD");
    }
}
