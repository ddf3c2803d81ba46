/** The boundary cases of what "Terms" says for all promises, and of how long an object is used. */
public final class BoundsOfTermsTest {
    private static final String NEW = Given.NEW, RICH = Given.RICH, SEVEN = Given.SEVEN, THREE = Given.THREE;
    private static final String SEVEN_BY_TEXT = Given.SEVEN_BY_TEXT;
    private static final Bounds b = new Bounds();

    public static void main(String[] args) {
        whatItIs();
        use();
        answersBelow0();
        whatThereIs();
        orders();
        reading();
        peakLossFits();
        bestAndGrown();
        kept();
        note();
        seen();
        text();
        faults();
        undone();
        drift();
        sheets();
        b.close("What it is", "Terms");
    }

    private static void whatItIs() {
        b.at("What it is", "Reading in stages: books of words put in an order, so that each brings few new words and those that are"
            + " known are met again in time, before they are lost;");
        // abc, a, ab: a, ab, abc bring one each, and none is lost; as they came three at once.
        b.run("book(7) book(1) book(3)", "count(6)=3 best(0)=120 best(1)=1 best(2)=0 settle(0)=120 count(6)=1 count(7)=0");

        b.at("What it is", "by rules that let them last longer the more often they are met;");
        b.run("book(1) book(1) book(2) book(2) tell(0,1)", "place(2,5)=1 tell(2,1)=0 place(2,5)=0 place(3,5)=1");
        b.run(Given.times(3, "book(1)") + Given.times(4, "book(2)") + "tell(0,1)", "place(3,5)=1 tell(2,1)=0 place(3,5)=0"
            + " place(5,5)=1 tell(2,2)=1 place(5,5)=0 place(6,5)=1");

        b.at("What it is", "what each place of an order brings, what becomes of each word;");
        b.run("book(3) book(1) book(4) book(2)", "place(0,1)=2 place(1,2)=1 place(2,3)=1 place(3,6)=6 word(1,2)=2 word(1,3)=1"
            + " word(0,1)=0");

        b.at("What it is", "orders in which some books must come ahead of others, all that fit, the best one, one that is put"
            + " together book by book;");
        // ab, c, abd, d; 2 ahead of 1 and 0: 2 brings ab and d, or d behind 3.
        b.run("book(3) book(4) book(11) book(8) ahead(2,1) ahead(2,0) tell(1,2)", "many(0)=8 many(1)=2 fit(0)=3201 fit(1)=3210"
            + " fit(2)=NONE best(0)=3201 best(1)=2 best(3)=3201");

        b.at("What it is", "a word kept if books are missed;");
        b.run("book(1) book(1)", "kept(0,5,0)=3 kept(0,5,1)=4");

        b.at("What it is", "orders by what they bring;");
        b.run("book(1) book(3) sheet(0,0,2) item(0,0,0,1) item(0,0,1,1)", "seen(0,0,0)=1 item(0,0,0,2)=1 seen(0,0,0)=0"
            + " item(0,0,1,0)=1 seen(0,0,0)=1");

        b.at("What it is", "a note of it all;");
        b.note("book(3) book(1) book(4) book(2)", "0+2 1+0 2+1-1 3+1-1");

        b.at("What it is", "books, rules told, by texts, by draws, undone;");
        b.run(NEW, "book(1)=0 tell(2,1)=0 text[doubling3:a,b] read()=2 drift(1) undo()=3 count(0)=2 count(4)=2 undo()=2 count(0)=1"
            + " count(4)=1 undo()=1 count(4)=0 undo()=0 count(0)=0 undo()=NONE");

        b.at("What it is", "images;");
        b.run("book(1) image() lose(0)", "count(0)=0 restore()=1 count(0)=1");

        b.at("What it is", "sheets that may be missing.");
        b.refused("book(1)", "seen(0,0,0)=NULL film(1,1,0)=NULL drop(2)=NULL item(3,3,0,0)=NULL copy(0,0,1,0,0)=NULL");
    }

    private static void use() {
        b.at("What it is", "An object is used for at most 512 calls after it has been made; what later calls answer is free.");
        String run = Given.times(252, "book(1) lose(0)") + "book(3) book(5) image() drift(40) restore() undo()=5 count(0)=1";
        b.due("calls", Play.calls(run).size(), 511);
        b.run(run, "told(0,0)=3");
    }

    private static void answersBelow0() {
        b.at("Terms", "Answers below 0, of several the first that a call names:");
        b.refused(SEVEN, "book(0)=BAD book(MIN)=BAD");
        b.refused(NEW, "settle(2)=BAD settle(-1)=BAD");
        b.refused("text[" + "a".repeat(90) + "]", "type(31)=BAD");
        b.refused("book(1) book(2) ahead(0,1)", "ahead(1,1)=BAD move(2,2)=BAD words(2,1)=BAD words(0,0)=BAD");
        b.refused(NEW, "prior(-1)=BAD tell(0,0)=BAD");
        // seen: BAD, NULL, CAST, INDEX, NOT.
        String row = "sheet(1,2,3) item(1,2,0,21)";
        b.refused(row, "seen(4,5,9)=BAD seen(0,4,9)=BAD seen(0,1,9)=NULL seen(1,1,9)=CAST seen(1,2,9)=INDEX seen(1,2,0)=NOT");
        b.refused("book(1) " + row, "seen(4,5,9)=BAD seen(0,1,9)=NULL seen(1,1,9)=CAST seen(1,2,9)=INDEX seen(1,2,0)=NOT");

        b.at("Terms", "BAD -1 (a number is not as told, there is no such thing), NOT -2 (as told), FULL -3, NONE -4 (as told),"
            + " CAST -12 (of SHEETS another LANE); what the machine finds: NULL -11, INDEX -13, SIZE -14");
        int[] got = {ReadingStages.BAD, ReadingStages.NOT, ReadingStages.FULL, ReadingStages.NONE, ReadingStages.NULL,
            ReadingStages.CAST, ReadingStages.INDEX, ReadingStages.SIZE};
        int[] want = {-1, -2, -3, -4, -11, -12, -13, -14};
        for (int i = 0; i < want.length; i++) b.due("constant " + i, got[i], want[i]);
        b.refused(SEVEN, "book(0)=-1 lose(7)=-1 words(0,1)=-2 book(1)=-3 letter(64)=-4 drop(0)=-11 seen(3,0,0)=-12 seen(3,3,2)=-13"
            + " sheet(0,0,-1)=-14");

        b.at("Terms", "(NULL, CAST, INDEX, SIZE in this order).");
        b.refused("sheet(0,0,2) sheet(1,1,2)", "item(2,0,9,1)=NULL item(0,1,9,1)=CAST item(0,0,9,1)=INDEX film(2,0,9)=NULL"
            + " film(0,1,9)=CAST film(0,0,9)=INDEX copy(2,9,0,9,-1)=NULL copy(0,9,2,9,-1)=NULL copy(0,9,1,9,-1)=CAST"
            + " copy(0,9,0,9,-1)=INDEX sheet(2,0,-1)=SIZE");

        b.at("Terms", "What is refused changes nothing, but as told.");
        b.refused(RICH, "book(0)=BAD words(0,7)=NOT words(9,1)=BAD lose(4)=BAD ahead(0,0)=BAD ahead(2,0)=NOT prior(-1)=BAD"
            + " prior(8)=NOT tell(0,0)=BAD tell(0,3)=NOT tell(1,21)=BAD tell(1,4)=NOT tell(2,3)=BAD tell(2,1)=NOT move(0,4)=BAD"
            + " move(1,1)=NOT settle(2)=BAD drift(41)=BAD seed(-1)=BAD type(31)=BAD");
        b.refused(RICH, "seen(3,0,0)=NULL film(0,0,0)=INDEX film(0,1,0)=CAST sheet(0,0,25)=BAD sheet(0,0,-1)=SIZE drop(3)=NULL"
            + " item(0,0,3,9)=INDEX copy(2,0,2,1,4)=INDEX copy(0,0,1,0,1)=CAST");
        b.refused(SEVEN, "book(1)=FULL settle(-1)=BAD film(3,3,2)=INDEX copy(3,0,3,1,8)=INDEX");
        // As told: THE TAPE is empty behind a fault, THE DRAW goes on in a turn that is refused.
        b.run(RICH, "type(58)=14 read()=-33 type(97)=1");
        b.run("seed(77)", "drift(1)=0 count(0)=0 seed(0)=" + Draws.goOn(Draws.goOn(77)));

        b.at("Terms", "Sets of WORDS, of BOOKS are bits.");
        b.run("book(1) book(524288)", "told(0,0)=1 told(1,0)=524288 place(0,4)=1 place(1,4)=524288 place(1,6)=524289 word(19,0)=1");
        b.run(SEVEN, "told(6,1)=1 told(0,2)=64 ahead(5,0)=1 told(0,2)=96 ahead(5,6)=1 told(5,1)=65");

        b.at("Terms", "Fractions are in lowest terms: 0 above, 1 below (0 is 0 by 1).");
        b.run("book(1)", "kept(0,4,0)=3 kept(0,4,1)=5 kept(0,5,0)=1 kept(0,5,1)=2 kept(0,7,0)=3 kept(0,7,1)=10 kept(0,0,0)=1"
            + " kept(0,0,1)=1 kept(0,10,0)=0 kept(0,10,1)=1 kept(1,4,0)=0 kept(1,4,1)=1");
        b.run(Given.times(7, "book(1)") + "tell(0,4) tell(2,2)", "kept(0,10,0)=0 kept(0,10,1)=1 kept(0,0,0)=1 kept(0,0,1)=1");
    }

    private static void whatThereIs() {
        b.at("Terms", "WORDS 0 .. 19.");
        b.run(NEW, "book(1)=0 book(524288)=1 prior(524288)=0 word(0,4)=1 word(19,4)=1");
        b.refused("book(1)", "book(1048576)=BAD words(0,1048576)=BAD prior(1048576)=BAD word(20,4)=BAD word(-1,4)=BAD"
            + " kept(20,5,0)=BAD");

        b.at("Terms", "BOOKS 0 .. n less 1 (none at first, 7 at most): each a set of some WORDS.");
        b.run(NEW, "count(0)=0 told(0,0)=BAD book(1)=0 told(0,0)=1 told(1,0)=BAD");
        b.run(SEVEN, "count(0)=7 told(6,0)=64 told(7,0)=BAD");
        b.refused(SEVEN, "book(1)=FULL words(6,0)=BAD");

        b.at("Terms", "PRIOR: a set of WORDS (none at first), that count for nothing.");
        b.run("book(7) book(1)", "count(1)=0 prior(1)=0 place(0,1)=2 place(0,4)=6 place(1,1)=0 place(1,2)=0 place(1,6)=6"
            + " word(0,0)=NONE"
            + " word(0,1)=0 count(6)=2 best(1)=2 kept(0,0,0)=0");
        b.run("book(7) book(1) prior(ALL)", "count(6)=0 count(7)=0 best(1)=0 best(4)=0 tell(1,0)=5 many(1)=2 letter(2)=48");
        // A word is told as PRIOR while others are met: GROWN goes by those that count.
        b.run("book(7) book(24)", "best(3)=10 prior(6)=0 best(3)=1");

        b.at("Terms", "A BOOK may be AHEAD of another one (none at first): so that none is AHEAD of itself by others in between.");
        b.run("book(1) book(2)", "told(0,1)=0 told(0,2)=0 told(1,1)=0 told(1,2)=0 ahead(0,1)=1 ahead(1,0)=NOT");
        b.run(SEVEN_BY_TEXT, "ahead(6,5)=1 ahead(5,4)=1 ahead(4,3)=1 ahead(3,2)=1 ahead(2,1)=1 ahead(1,0)=1 ahead(0,6)=NOT"
            + " ahead(0,1)=NOT ahead(1,6)=NOT ahead(6,0)=1 many(0)=1");

        b.at("Terms", "SPAN is 1 .. 4 (2 at first), BOUND 0 .. 20 (5 at first).");
        b.run(NEW, "count(2)=2 count(3)=5 tell(0,1)=2 tell(0,4)=1 tell(1,0)=5 tell(1,20)=0");
        b.refused(NEW, "tell(0,0)=BAD tell(0,5)=BAD tell(1,-1)=BAD tell(1,21)=BAD");

        b.at("Terms", "RULE 0 STEADY, 1 GROWING, 2 DOUBLING (0 at first).");
        b.run(NEW, "count(4)=0 tell(2,1)=0 tell(2,2)=1 tell(2,0)=2");
        b.refused(NEW, "tell(2,-1)=BAD tell(2,3)=BAD");
    }

    private static void orders() {
        b.at("Terms", "AN ORDER has all BOOKS once, at PLACES 0 .. n less 1; it's told as a number, by the figures of its BOOKS,"
            + " PLACE 0 first (0, if there is none).");
        b.run(NEW, "count(5)=0 best(0)=0 best(3)=0 fit(0)=0 place(0,0)=BAD");
        b.run("book(1)", "count(5)=0 place(0,0)=0 place(1,0)=BAD");
        b.run(SEVEN, "count(5)=123456 move(0,6)=0 count(5)=1234560 place(6,0)=0 place(7,0)=BAD");
        b.run(SEVEN_BY_TEXT, "fit(5039)=6543210");

        b.at("Terms", "THE ORDER: that which is kept: as they came, if nothing else is told.");
        b.run(NEW, "book(1)=0 book(2)=1 book(4)=2 count(5)=12 move(2,0)=2 count(5)=201 book(8)=3 count(5)=2013 lose(2)=3"
            + " count(5)=12");
        b.run("book(1) book(2) move(0,1) text[steady2:a,b,c] read()", "count(5)=12");
        // What is AHEAD does not move them.
        b.run("book(1) book(2)", "ahead(1,0)=1 count(5)=1 count(8)=0");
    }

    private static void reading() {
        b.at("Terms", "READ in an ORDER: WORDS (but PRIOR) have a STRENGTH, 0 at first.");
        b.run(NEW, "word(0,1)=0 word(19,1)=0");
        b.run("book(3)", "word(0,1)=1 word(1,1)=1 word(2,1)=0 prior(1)=0 word(0,1)=0 word(1,1)=1 place(0,6)=2");

        b.at("Terms", "At a PLACE for each WORD of its BOOK: of STRENGTH 0 it's NEW there, its STRENGTH is 1; else it's met AGAIN,"
            + " its STRENGTH is one more (9 at most).");
        // Seven meetings are the most that there can be.
        b.run(Given.times(7, "book(524289)"), "word(0,1)=7 word(19,1)=7 place(0,1)=2 place(0,2)=0 place(1,1)=0 place(1,2)=2"
            + " place(6,2)=2");
        for (int n = 1; n < 7; n++) b.run(Given.times(n, "book(1)"), "word(0,1)=" + n + ""
            + " place(" + (n - 1) + ",1)=" + (n == 1 ? 1 : 0));
        // Met in the very place in which it would be lost, it is met AGAIN; a place later it is NEW.
        b.run("book(1) book(2) book(1)", "place(2,1)=0 place(2,2)=1 place(2,3)=0 word(0,1)=2");
        b.run("book(1) book(2) book(2) book(1)", "place(2,5)=1 place(3,1)=1 place(3,2)=0 word(0,1)=1 word(0,2)=2 word(0,3)=1");

        b.at("Terms", "Then each WORD of a STRENGTH m above 0 is LOST there, if the PLACE at which it was met last is as many"
            + " PLACES"
            + " back as it LASTS, or more: its STRENGTH is 0.");
        // By SPAN s the word of place p is lost at p and s, neither earlier nor once more.
        for (int s = 1; s <= 4; s++) {
            StringBuilder run = new StringBuilder("tell(0,1) tell(0," + s + ") count(7)=" + (7 - s));
            for (int p = 0; p < 7; p++) run.append(" place(" + p + ",5)=" + (p < s ? 0 : 1 << (p - s)));
            for (int w = 0; w < 7; w++) run.append(" word(" + w + ",1)=" + (w < 7 - s ? 0 : 1));
            b.run(SEVEN_BY_TEXT, run.toString());
        }
        b.run("book(1)", "tell(0,1)=2 place(0,5)=0 place(0,6)=1 word(0,1)=1 word(0,3)=0");
        // Lost at the last place.
        b.run("book(1) book(2) tell(0,1)", "place(1,5)=1 place(1,6)=2 word(0,1)=0 word(0,3)=1 count(7)=1");

        b.at("Terms", "It LASTS SPAN by STEADY, m times SPAN by GROWING, 2 to the (m less 1) times SPAN by DOUBLING.");
        for (int m = 1; m <= 6; m++) {
            for (int span = 1; span <= 4; span++) {
                lasts(m, span, 0, span);
                lasts(m, span, 1, m * span);
                lasts(m, span, 2, (1 << (m - 1)) * span);
            }
        }
    }

    /** A word in the first m of seven books: it is lost as many places behind the last of these as it lasts. */
    private static void lasts(int m, int span, int rule, int lasts) {
        StringBuilder run = new StringBuilder(Given.times(m, "book(1)") + Given.times(7 - m, "book(2)"));
        run.append("tell(0," + span + ") tell(2," + rule + ") ");
        int due = m - 1 + lasts;
        StringBuilder want = new StringBuilder();
        for (int p = 0; p < 7; p++) {
            int known = (p < due ? 1 : 0) + (p < m ? 0 : 2);
            want.append("place(" + p + ",5)=" + (p == due ? 1 : 0) + " place(" + p + ",6)=" + known + " ");
        }
        b.run(run.toString(), want + "word(0,1)=" + (due < 7 ? 0 : m));
    }

    private static void peakLossFits() {
        b.at("Terms", "PEAK of an ORDER: how many WORDS are NEW at the PLACE at which the most are (0 without BOOKS); LOSS: how"
            + " many"
            + " are LOST at all PLACES together.");
        b.run(NEW, "count(6)=0 count(7)=0");
        b.run("book(1) lose(0)", "count(6)=0 count(7)=0");
        // The most at the first place, at the last one; one word lost twice counts twice.
        b.run("book(7) book(8) book(48)", "count(6)=3 move(0,2)=0 count(6)=3 count(7)=1");
        b.run("book(1) book(2) book(1) book(2) tell(0,1)", "count(6)=1 count(7)=3 word(0,3)=2 word(1,3)=1");
        b.run("book(ALL) book(1) tell(0,1)", "count(6)=20 count(7)=19");

        b.at("Terms", "It HOLDS, if each BOOK that is AHEAD of another one comes ahead of it; it FITS, if it HOLDS and PEAK is"
            + " no more"
            + " than BOUND.");
        b.run(NEW, "count(8)=1 count(9)=1 tell(1,0)=5 count(9)=1");
        b.run("book(1) book(2) book(4) ahead(0,2)", "count(8)=1 move(0,1)=0 count(8)=1 move(1,2)=0 count(8)=0 count(9)=0");
        b.run("book(1) book(2) book(4) ahead(2,1)", "count(8)=0 count(9)=0 move(1,2)=1 count(8)=1 count(9)=1");
        b.run("book(7)", "tell(1,3)=5 count(9)=1 tell(1,2)=3 count(9)=0 count(8)=1 prior(1)=0 count(9)=1");
    }

    private static void bestAndGrown() {
        b.at("Terms", "BEST is, of all ORDERS that HOLD, that of the least PEAK, of like ones of the least LOSS, of like ones"
            + " the least"
            + " as a number.");
        // All alike: the least number; one HOLDS: that one, however much it brings.
        b.run(SEVEN_BY_TEXT, "best(0)=123456 ahead(6,5)=1 best(0)=123465");
        b.run("book(1) book(31) ahead(1,0)", "best(0)=10 best(1)=5");
        // PEAK 1 with LOSS 1 goes ahead of PEAK 2 with LOSS 0: a, ab, b by SPAN 1 instead of ab first.
        b.run("book(3) book(1) book(2) tell(0,1)", "best(0)=102 best(1)=1 best(2)=1");
        // LOSS decides ahead of the number: 021 loses one word, 012 both.
        b.run("book(1) book(2) book(1) tell(0,1)", "best(0)=21 best(2)=1 count(7)=2");

        b.at("Terms", "GROWN is put together PLACE by PLACE: of BOOKS of which none that is left is AHEAD, that which brings"
            + " the fewest NEW"
            + " WORDS there, of like ones which meets the most AGAIN, of like ones the least.");
        b.run(SEVEN_BY_TEXT, "best(3)=123456 ahead(6,0)=1 best(3)=1234560");
        b.run("book(1) book(31) ahead(1,0)", "best(3)=10 best(4)=5");
        // Behind ab: abc and d bring one each, abc meets two AGAIN.
        b.run("book(3) book(8) book(7) ahead(0,1) ahead(0,2)", "best(3)=21");
        b.run("book(3) book(7) book(17) ahead(0,1) ahead(0,2)", "best(3)=12 words(1,17)=7 words(2,7)=17 best(3)=21");
        // None NEW is fewer than one, though it meets fewer AGAIN: behind abc comes a, then abd.
        b.run("book(7) book(11) book(1) ahead(0,1) ahead(0,2)", "best(3)=21");
        // What is LOST is NEW again: behind a, b a would be NEW (SPAN 1), so a comes at once.
        b.run("book(1) book(2) book(1) tell(0,1)", "best(3)=21 best(5)=1");
    }

    private static void kept() {
        b.at("Terms", "KEPT by c of 10 (0 .. 10): each BOOK is missed by c of 10, apart (its PLACE goes by without it): how"
            + " likely a WORD's"
            + " STRENGTH is above 0 behind all PLACES of THE ORDER.");
        b.refused("book(1)", "kept(0,-1,0)=BAD kept(0,11,0)=BAD");
        b.run("book(1)", "kept(0,0,0)=1 kept(0,0,1)=1 kept(0,10,0)=0 kept(0,10,1)=1");
        // a, b, a by SPAN 2: the first a is lost at place 2 unless it is met there; THE ORDER counts.
        b.run("book(1) book(2) book(1)", "kept(0,3,0)=7 kept(0,3,1)=10 kept(1,3,0)=7 kept(1,3,1)=10 move(1,2)=1 kept(0,3,0)=7"
            + " kept(0,3,1)=10");
        b.run("book(1) book(2) book(1) move(1,0)", "kept(0,3,0)=91 kept(0,3,1)=100 kept(1,0,0)=0 kept(1,0,1)=1");
        // GROWING, SPAN 1: known two places behind, if it was met twice.
        b.run("book(1) book(1) book(2) tell(0,1) tell(2,1)", "kept(0,1,0)=81 kept(0,1,1)=100");
        // Missed is lost sooner: a in 0 and 1 of four, DOUBLING, SPAN 1, at 1 it lasts 2 by both: lost at 3 for sure.
        b.run("book(1) book(1) book(2) book(2) tell(0,1) tell(2,2)", "kept(0,0,0)=0 kept(0,1,0)=0 kept(0,1,1)=1");
    }

    private static void note() {
        b.at("Terms", "THE NOTE: for each PLACE of THE ORDER its BOOK, + , how many WORDS are NEW, and, if some are LOST, - ,"
            + " how many; with a"
            + " blank between; if there are no BOOKS: none (these four letters).");
        b.note(NEW, "none");
        b.note("book(1)", "0+1");
        b.note("book(1) prior(1)", "0+0");
        b.note("book(1) book(2) tell(0,1)", "0+1 1+1-1");
        b.note("book(ALL) book(1) move(0,1) tell(0,1)", "1+1 0+19");
        b.note("book(ALL) book(1) tell(0,1)", "0+20 1+0-19");
        b.note(SEVEN + " move(6,0)", "6+1 0+1 1+1-1 2+1-1 3+1-1 4+1-1 5+1-1");
    }

    private static void seen() {
        b.at("Terms", "SEEN: a row tells for each PLACE how many WORDS are NEW: how many ORDERS (all, if they HOLD or not) are"
            + " so.");
        String ones = "sheet(0,0,7) item(0,0,0,1) item(0,0,1,1) item(0,0,2,1) item(0,0,3,1) item(0,0,4,1) item(0,0,5,1)"
            + " item(0,0,6,1)";
        b.run(SEVEN_BY_TEXT + " " + ones, "seen(0,0,0)=5040 ahead(6,0)=1 seen(0,0,0)=5040 tell(1,0)=5 seen(0,0,0)=5040 prior(1)=0"
            + " seen(0,0,0)=0 item(0,0,0,0)=1 seen(0,0,0)=720");
        b.run("book(31) sheet(0,0,1) item(0,0,0,5)", "seen(0,0,0)=1 item(0,0,0,4)=1 seen(0,0,0)=0 item(0,0,0,6)=1 seen(0,0,0)=0");
    }

    private static void text() {
        b.at("Terms", "A TEXT: steady, growing or doubling (RULE), a figure 1 .. 4 (SPAN), : , then BOOKS with , between (one"
            + " at least): letters"
            + " a .. t (WORDS 0 .. 19) in a row, one at least; then perhaps ; and with , between, one at least: two figures,"
            + " BOOKS: the first"
            + " is AHEAD of the second.");
        b.run(NEW, "text[steady1:a] read()=1 count(4)=0 count(2)=1 told(0,0)=1");
        b.run(NEW, "text[growing2:t] read()=1 count(4)=1 count(2)=2 told(0,0)=524288");
        b.run(NEW, "text[doubling3:abcdefghijklmnopqrst] read()=1 count(4)=2 count(2)=3 told(0,0)=1048575");
        b.run(NEW, "text[steady4:a,ab,abc,abcd,t,at,st] read()=7 count(2)=4 told(0,0)=1 told(3,0)=15 told(6,0)=786432");
        b.run(NEW, "text[steady2:a,b;10] read()=2 told(1,1)=1 told(0,1)=0 count(8)=0");
        b.run(NEW, "text[steady2:a,b,c,d,e,f,g;06,16,26,36,46,56] read()=7 told(6,2)=63");
        b.run(NEW, "text[steady2:a,b,c;01,12,02] read()=3 told(0,1)=6 told(1,1)=4");
        b.fault("steady2:", 8);
        b.fault("steady2:a,", 10);
        b.fault("steady2:,a", 8);
        b.fault("steady2:a;", 10);
        b.fault("steady2:a,b;01,", 15);

        b.at("Terms", "All BOOKS, what is AHEAD are those told then, THE ORDER as they came; PRIOR, BOUND stay.");
        b.run(SEVEN + " move(6,0) prior(2) tell(1,20) read()", "text[growing1:c,d] read()=2 count(0)=2 count(5)=1 told(0,0)=4"
            + " told(1,0)=8"
            + " told(0,1)=0 told(0,2)=0 told(1,1)=0 told(1,2)=0 count(1)=2 count(3)=20 count(2)=1 count(4)=1 told(2,0)=BAD");
        b.run("book(1) book(2) ahead(0,1) text[steady2:a,b;10] read()", "told(0,1)=0 told(1,1)=1 ahead(0,1)=NOT");
        // What stood behind the last BOOK does not come again with the next one.
        b.run(SEVEN + " read() text[steady2:a] read()", "book(1)=1 told(1,1)=0 told(1,2)=0 book(1)=2 book(1)=3 book(1)=4"
            + " book(1)=5 book(1)=6"
            + " told(6,1)=0 told(0,2)=0 count(5)=123456");
    }

    private static void faults() {
        b.at("Terms", "A FAULT is the first letter (behind blanks) that can't stand there");
        b.fault("steady 9:a", 7);
        b.fault("steady   9:a", 9);
        b.fault("steady:a", 6);
        b.fault("steadyX2:a", 6);
        b.fault("steady2;a", 7);
        b.fault("steady2:1", 8);
        b.fault("steady2:a:", 9);
        b.fault("steady2:a1", 9);
        b.fault("steady2:a   1", 12);
        b.fault("steady2:a,,b", 10);
        b.fault("steady2:A", 8);
        b.fault("steady2:a`", 9);
        b.fault("steady22:a", 7);
        b.fault("steady2:a;a", 10);
        b.fault("steady2:a,b;0a", 13);
        b.fault("steady2:a,b;01;", 14);
        b.fault("steady2:a,b;012", 14);
        b.fault("steady2:a,b;01:", 14);
        b.fault("steady2:a,b; 0 1 x", 17);

        b.at("Terms", "(a letter of an 8th BOOK;");
        b.fault("steady2:a,b,c,d,e,f,g,h", 22);
        b.fault("steady2:a,b,c,d,e,f,g,  h", 24);
        b.fault("steady2:a,b,c,d,e,f,g,hhh", 22);
        b.fault("steady2:a,b,c,d,e,f,g,h;01", 22);
        b.fault("steady2:a,b,c,d,e,f,g,", 22);
        b.run(NEW, "text[steady2:a,b,c,d,e,f,g] read()=7");

        b.at("Terms", "a letter above t;");
        b.fault("steady2:u", 8);
        b.fault("steady2:z", 8);
        b.fault("steady2:tu", 9);
        b.fault("steady2:a,bv,c", 11);
        b.run(NEW, "text[steady2:t] read()=1");

        b.at("Terms", "a figure that is no BOOK, the second one by which one would be AHEAD of itself, or that is told twice so;");
        b.fault("steady2:a,b;21", 12);
        b.fault("steady2:a,b;91", 12);
        b.fault("steady2:a,b;02", 13);
        b.fault("steady2:a,b;09", 13);
        b.fault("steady2:a;00", 11);
        b.fault("steady2:a,b;11", 13);
        b.fault("steady2:a,b;01,10", 16);
        b.fault("steady2:a,b;01,01", 16);
        b.fault("steady2:a,b;01, 0 1", 18);
        b.fault("steady2:a,b,c;01,12,20", 21);
        b.fault("steady2:a,b,c;01,12,01", 21);
        b.fault("steady2:a,b,c,d,e,f,g;70", 22);
        b.fault("steady2:a,b,c,d,e,f,g;07", 23);
        b.fault("steady2:a,b,c,d,e,f,g;01,12,23,34,45,56,60", 41);
        b.run(NEW, "text[steady2:a,b,c,d,e,f,g;06] read()=7");

        b.at("Terms", "the end: how many letters there are);");
        b.fault("", 0);
        b.fault("  ", 2);
        b.fault("steady", 6);
        b.fault("steady ", 7);
        b.fault("steady2", 7);
        b.fault("steady2:", 8);
        b.fault("steady2:  ", 10);
        b.fault("steady2:a,", 10);
        b.fault("steady2:a;", 10);
        b.fault("steady2:a;  ", 12);
        b.fault("steady2:a,b;0", 13);
        b.fault("steady2:a,b;01,", 15);
        b.fault("steady2:" + "t".repeat(81) + ",", 90);

        b.at("Terms", "of a NAME that is none of these its first letter.");
        b.fault("stead2:a", 0);
        b.fault("steadyy2:a", 0);
        b.fault("  stead2:a", 2);
        b.fault("steadya2:a", 0);
        b.fault("steadyz2:a", 0);
        b.fault("xteady2:a", 0);
        b.fault("steadx2:a", 0);
        b.fault("steadygrowing2:a", 0);
        b.fault("a", 0);
        b.fault("Steady2:a", 0);
        b.fault("doublin4:a", 0);
        b.fault("growin g4:a", 0);
        b.fault("2:a", 0);

        b.at("Terms", "A letter twice in a BOOK is there once.");
        b.run(NEW, "text[steady2:aa,abab,tt] read()=3 told(0,0)=1 told(1,0)=3 told(2,0)=524288 place(0,1)=1");

        b.at("Terms", "Blanks count for nothing, but end a NAME, a BOOK.");
        b.same("text[  steady  2  :  ab  ,  c  ;  0  1  ] read()", "text[steady2:ab,c;01] read()");
        b.same("text[steady2:ab,c;0 1] read()", "text[steady2:ab,c;01] read()");
        b.fault("stea dy2:a", 0);
        b.fault("steady growing2:a", 7);
        b.fault("steady2:a b", 10);
        b.fault("steady2:a, b c", 13);
        b.fault("steady2:a  b", 11);
    }

    private static void undone() {
        b.at("Terms", "UNDONE: the latest of a BOOK told, its WORDS told, lost, of what is AHEAD, PRIOR, SPAN, BOUND, RULE"
            + " told, of a BOOK moved,"
            + " THE ORDER told as BEST or GROWN, of a TEXT, a turn of a DRIFT, is as it had not been");
        for (String change : Given.CHANGES) {
            b.same(THREE + " " + change + " undo()", THREE);
            b.run(THREE + " " + change, "count(10)=2");
        }
        // What is not told here may not be undone.
        b.run(THREE, "seed(3)=7 image()=1 restore()=1 sheet(0,0,2)=2 item(0,0,0,1)=1 copy(0,0,0,1,1)=1 drop(0)=2 type(97)=1"
            + " read()=-20"
            + " best(0)=201 letter(0)=48 count(10)=1");

        b.at("Terms", "(6 are known, older ones lost)");
        b.run("book(1) book(2) book(4) book(8) book(16)", "count(10)=5 book(32)=5 count(10)=6 book(64)=6 count(10)=6 undo()=5"
            + " undo()=4 undo()=3"
            + " undo()=2 undo()=1 undo()=0 count(0)=1 undo()=NONE count(0)=1");
        b.run(Given.times(20, "book(1) lose(0)") + "prior(1) prior(2) prior(3) prior(4) prior(5) prior(6) prior(7)", "undo()=5"
            + " count(1)=6"
            + " undo()=4 count(1)=5 undo()=3 count(1)=4 undo()=2 count(1)=3 undo()=1 count(1)=2 undo()=0 count(1)=1 undo()=NONE");
        b.run("book(1) drift(7)", "count(10)=6");

        b.at("Terms", ": all but SHEETS, THE TAPE, IMAGES is as ahead of it, whatever was told since.");
        for (String change : Given.CHANGES) {
            if (change.startsWith("text")) continue;
            String since = " seed(99) sheet(0,2,3) item(0,2,1,4) text[growing1:ab]";
            b.same(THREE + " " + change + since + " undo()", THREE + " sheet(0,2,3) item(0,2,1,4) text[growing1:ab]");
        }
        b.run("book(1) image() undo()", "count(0)=0 restore()=1 count(0)=1 undo()=0 restore()=1 count(0)=1");
        b.run("seed(5) book(1) seed(6) book(2) seed(7)", "undo()=1 seed(0)=6 undo()=0 seed(0)=5");
    }

    private static String standing(String run) {
        StringBuilder t = new StringBuilder();
        Sight.addStanding(t, new Play(run));
        return t.toString();
    }

    /** The turn is as its call, and the draw has gone on twice. */
    private static void taken(String given, long seed, String call) {
        String seeded = given + " seed(" + seed + ") ";
        b.due("the call of " + seed + " is " + call, Draws.callOf(seed).equals(call) ? 1 : 0, 1);
        b.due("[" + seeded + "] " + call + " is not refused", new Play(seeded).make(call) < 0 ? 0 : 1, 1);
        b.same(seeded + "drift(1)", seeded + call + " seed(" + Draws.goOn(Draws.goOn(seed)) + ")");
    }

    /** The turn does nothing, but the draw has gone on twice; it may be undone like each turn. */
    private static void refusedTurn(String given, long seed, String callAndAnswer) {
        String seeded = given + " seed(" + seed + ") ";
        b.due("the call of " + seed + " is " + callAndAnswer, callAndAnswer.startsWith(Draws.callOf(seed) + "=") ? 1 : 0, 1);
        b.run(seeded, callAndAnswer);
        StringBuilder got = new StringBuilder(), want = new StringBuilder();
        Sight.addStanding(got, new Play(seeded + "drift(1)"));
        Sight.addStanding(want, new Play(given + " seed(" + Draws.goOn(Draws.goOn(seed)) + ")"));
        b.due("[" + seeded + "drift(1)] is as [" + want + "], not"
            + " [" + got + "]", got.toString().equals(want.toString()) ? 1 : 0, 1);
        b.due("[" + seeded + "drift(1)] books", new Play(seeded).make("drift(1)"), new Play(given).make("count(0)"));
        b.same(seeded + "drift(1) undo()", seeded);
    }

    private static void drift() {
        b.at("Terms", "DRIFT by a seed: THE DRAW is a number of 31 bits (1 at first); it goes on: it becomes the lowest 31 bits"
            + " of itself times"
            + " 1103515245 and 12345 more.");
        b.run(NEW, "seed(1)=1 drift(1)=0 seed(0)=377401575");
        long beforeNone = Draws.goBack(0), beforeMost = Draws.goBack(Draws.MANY - 1);
        long[] seeds = {0, 1, 2, 1 << 30, Integer.MAX_VALUE, Integer.MAX_VALUE - 1, 65535, 65536, beforeNone, beforeMost,
            Draws.goBack(beforeNone), Draws.goBack(beforeMost)};
        for (long seed : seeds) {
            b.run("seed(" + seed + ")", "drift(1) seed(0)=" + Draws.goOn(Draws.goOn(seed)));
            b.due("a way back to " + seed, (int) Draws.goOn(Draws.goBack(seed)), (int) seed);
        }

        b.at("Terms", "For each turn it goes on twice: x is it by 65536 (cut) the first time, y by 2048 (cut) the second time:"
            + " s is y left over by"
            + " 1048576.");
        long most = Draws.seedWith(0, 1048575), one = Draws.seedWith(1, 1);
        taken(NEW, most, "book(1048575)");
        taken(NEW, one, "book(1)");
        b.run("seed(" + most + ")", "drift(1)=1 told(0,0)=1048575 word(19,4)=1");
        b.run("seed(" + Draws.goBack(Draws.goBack(Draws.goBack(Draws.goBack(5)))) + ")", "drift(2) seed(0)=5");

        b.at("Terms", "x left over by 8 is 0, 1: book(s); 2: words((x by 8, cut) left over by 7, s); 3: ahead((x by 8, cut)"
            + " left over by 7, (x by 64,"
            + " cut) left over by 7); 4, 5: move((x by 8, cut) left over by 7, (x by 64, cut) left over by 7); 6: tell(0, (x by"
            + " 8, cut) left over"
            + " by 4, and 1); 7: tell(2, (x by 8, cut) left over by 3).");
        taken(THREE, Draws.seedWith(0, 524288), "book(524288)");
        taken(THREE, Draws.seedWith(1, 524288), "book(524288)");
        long words = Draws.seedWith(2, 1048574);
        taken(SEVEN_BY_TEXT, words, Draws.callOf(words));
        for (int a = 0; a < 7; a++) {
            for (int c = 0; c < 7; c++) {
                if (a == c) continue;
                String ahead = "ahead(" + a + "," + c + ")", move = "move(" + a + "," + c + ")";
                taken(SEVEN_BY_TEXT, Draws.seedOf(3, ahead), ahead);
                taken(SEVEN_BY_TEXT, Draws.seedOf(4, move), move);
                taken(SEVEN_BY_TEXT, Draws.seedOf(5, move), move);
            }
        }
        taken(SEVEN_BY_TEXT + " ahead(6,0)", Draws.seedOf(3, "ahead(6,0)"), "ahead(6,0)");
        for (int span = 1; span <= 4; span++) {
            String call = "tell(0," + span + ")";
            taken(span == 1 ? NEW : "tell(0,1)", Draws.seedOf(6, call), call);
        }
        for (int rule = 0; rule < 3; rule++) {
            String call = "tell(2," + rule + ")";
            taken(rule == 0 ? "tell(2,1)" : NEW, Draws.seedOf(7, call), call);
        }

        // Each x left over by 11 is as its call, at both ends of what is cut, taken or refused.
        for (long x = 32767; x >= 0; x -= 11) {
            long seed = Draws.goBack(x * 65536 + (x % 2 == 0 ? 0 : 65535));
            String seeded = SEVEN_BY_TEXT + " ahead(0,1) prior(1) seed(" + seed + ") ";
            String got = standing(seeded + "drift(1)");
            String want = standing(seeded + Draws.callOf(seed) + " seed(" + Draws.goOn(Draws.goOn(seed)) + ")");
            b.due("[" + seeded + "drift(1)] is as [" + want + "], not [" + got + "]", got.equals(want) ? 1 : 0, 1);
        }

        b.at("Terms", "(Nothing, if that is refused.)");
        refusedTurn(THREE, Draws.seedWith(0, 0), "book(0)=BAD");
        refusedTurn(THREE, Draws.seedWith(1, 0), "book(0)=BAD");
        refusedTurn(SEVEN_BY_TEXT, Draws.seedWith(0, 9), "book(9)=FULL");
        refusedTurn(SEVEN_BY_TEXT, Draws.seedWith(1, 0), "book(0)=BAD");
        refusedTurn(NEW, words, Draws.callOf(words) + "=BAD");
        long none = Draws.seedWith(2, 0);
        refusedTurn(SEVEN_BY_TEXT, none, Draws.callOf(none) + "=BAD");
        String again = Draws.callOf(words);
        refusedTurn(SEVEN_BY_TEXT + " " + again, words, again + "=NOT");
        refusedTurn(SEVEN_BY_TEXT, Draws.seedOf(3, "ahead(6,6)"), "ahead(6,6)=BAD");
        refusedTurn(THREE, Draws.seedOf(3, "ahead(0,3)"), "ahead(0,3)=BAD");
        refusedTurn(THREE, Draws.seedOf(3, "ahead(1,0)"), "ahead(1,0)=NOT");
        refusedTurn(THREE, Draws.seedOf(4, "move(2,2)"), "move(2,2)=NOT");
        refusedTurn(THREE, Draws.seedOf(5, "move(3,0)"), "move(3,0)=BAD");
        refusedTurn(NEW, Draws.seedOf(4, "move(0,0)"), "move(0,0)=BAD");
        refusedTurn(THREE, Draws.seedOf(6, "tell(0,2)"), "tell(0,2)=NOT");
        refusedTurn(THREE, Draws.seedOf(7, "tell(2,0)"), "tell(2,0)=NOT");
    }

    private static void sheets() {
        b.at("Terms", "sheets 0 .. 3: nothing (at first), or a row of a LANE: 0 bytes, 1 shorts, 2 ints, 3 longs, of 0 to 24"
            + " items.");
        b.refused(NEW, "drop(-1)=BAD drop(4)=BAD drop(0)=NULL drop(1)=NULL drop(2)=NULL drop(3)=NULL");
        b.run(NEW, "sheet(0,0,0)=0 sheet(3,3,24)=24 sheet(1,1,24)=24 sheet(2,2,0)=0 drop(0)=0 drop(1)=24 drop(2)=0 drop(3)=24");
        b.refused("sheet(1,1,24)", "sheet(0,0,25)=BAD sheet(0,0,-1)=SIZE sheet(0,4,1)=BAD sheet(0,-1,1)=BAD item(1,1,24,1)=INDEX");
        // 5 and 256, 65536, 2 to the 32nd more: the lanes that are as narrow keep 5.
        String five = "book(31) sheet(0,0,1) sheet(1,1,1) sheet(2,2,1) sheet(3,3,1) ";
        b.run(five, "item(0,0,0,261)=1 seen(0,0,0)=1 item(1,1,0,261)=1 seen(1,1,0)=NOT item(1,1,0,65541)=1 seen(1,1,0)=1"
            + " item(2,2,0,65541)=1"
            + " seen(2,2,0)=NOT item(2,2,0,4294967301)=1 seen(2,2,0)=1 item(3,3,0,4294967301)=1 seen(3,3,0)=NOT");
    }
}
