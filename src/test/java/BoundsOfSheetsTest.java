/** The boundary cases of promises 26 to 31: sheets. */
public final class BoundsOfSheetsTest {
    private static final String NEW = Given.NEW, RICH = Given.RICH, SEVEN = Given.SEVEN;
    /** abc, a, bd: 012 brings 3 0 1, 021 3 1 0, 102 1 2 1, 120 1 2 1, 201 2 2 0, 210 2 1 1. */
    private static final String BOOKS = "book(7) book(1) book(10) ahead(0,1)";
    private static final Bounds b = new Bounds();

    public static void main(String[] args) {
        seen();
        film();
        sheet();
        drop();
        item();
        copy();
        b.closePromises(26, 31);
    }

    /** A new row of a lane with items. */
    private static String row(int sheet, int lane, long... items) {
        StringBuilder t = new StringBuilder(" sheet(" + sheet + "," + lane + "," + items.length + ")");
        for (int i = 0; i < items.length; i++) t.append(" item(").append(sheet + "," + lane + "," + i + "," + items[i] + ")");
        return t.toString();
    }

    /** A call told with L for the lane, M for another one, behind a run told so, too, in each lane. */
    private static String in(int lane, String run) {
        return run.replace(",L,", "," + lane + ",").replace(",M,", "," + (lane + 1) % 4 + ",");
    }

    private static void seen() {
        b.at("Promise 26", "SEEN by as many items as there are BOOKS, of a SHEET taken as a row of a LANE, from item i on.");
        for (int lane = 0; lane < 4; lane++) {
            // Neither what stands ahead of the items nor what stands behind them counts.
            String given = BOOKS + row(0, lane, 99, 1, 2, 1, -7, 2, 2, 0);
            b.run(given, in(lane, "seen(0,L,1)=2 seen(0,L,5)=1 seen(0,L,0)=NOT seen(0,L,2)=NOT"));
            b.run(BOOKS + row(3, lane, 3, 0, 1), in(lane, "seen(3,L,0)=1 lose(2)=2 seen(3,L,0)=1 seen(3,L,1)=0"));
            b.run("book(ALL)" + row(3, lane, 20, 0), in(lane, "seen(3,L,0)=1 seen(3,L,1)=0 prior(ALL)=0 seen(3,L,1)=1"
                + " seen(3,L,0)=0"));
            b.run(SEVEN + row(3, lane, new long[24]), in(lane, "seen(3,L,0)=0 seen(3,L,17)=0 prior(127)=0 seen(3,L,17)=5040"));
        }
        b.same(RICH + " seen(2,2,0)", RICH);

        b.at("Promise 26", "BAD;");
        b.refused(NEW, "seen(-1,0,0)=BAD seen(4,0,0)=BAD seen(0,-1,0)=BAD seen(0,4,0)=BAD");
        b.refused(RICH, "seen(-1,0,0)=BAD seen(4,0,0)=BAD seen(MAX,0,0)=BAD seen(MIN,0,0)=BAD");
        b.refused(RICH, "seen(0,-1,0)=BAD seen(0,4,0)=BAD seen(0,MAX,0)=BAD seen(0,MIN,0)=BAD seen(3,4,9)=BAD");

        b.at("Promise 26", "NULL;");
        b.refused(NEW, "seen(0,0,0)=NULL seen(3,3,-1)=NULL");
        b.refused(RICH, "seen(3,0,0)=NULL seen(3,3,-1)=NULL seen(3,1,MAX)=NULL");
        b.refused(RICH + " drop(0)", "seen(0,0,0)=NULL");

        b.at("Promise 26", "CAST;");
        b.refused("sheet(0,0,2)", "seen(0,1,0)=CAST seen(0,3,-1)=CAST");
        b.refused(RICH, "seen(0,1,0)=CAST seen(0,2,0)=CAST seen(0,3,0)=CAST seen(1,0,0)=CAST seen(2,1,-1)=CAST seen(2,3,99)=CAST");

        b.at("Promise 26", "INDEX;");
        for (int lane = 0; lane < 4; lane++) {
            String given = BOOKS + row(1, lane, 21, 1, 1, -1);
            b.refused(given, in(lane, "seen(1,L,2)=INDEX seen(1,L,-1)=INDEX seen(1,L,4)=INDEX seen(1,L,MAX)=INDEX"
                + " seen(1,L,MIN)=INDEX seen(1,L,2147483645)=INDEX"));
            b.refused(BOOKS + row(1, lane, 1, 2), in(lane, "seen(1,L,0)=INDEX"));
            b.refused(BOOKS + row(1, lane), in(lane, "seen(1,L,0)=INDEX"));
        }
        b.refused(SEVEN + row(0, 1, new long[24]), "seen(0,1,18)=INDEX seen(0,1,-1)=INDEX");

        b.at("Promise 26", "NOT: an item is not 0 .. 20, or there is no BOOK.");
        for (int lane = 0; lane < 4; lane++) {
            for (long wrong : new long[] {-1, 21, 127, -128}) {
                b.refused(BOOKS + row(1, lane, wrong, 1, 1), in(lane, "seen(1,L,0)=NOT"));
                b.refused(BOOKS + row(1, lane, 1, wrong, 1), in(lane, "seen(1,L,0)=NOT"));
                b.refused(BOOKS + row(1, lane, 1, 1, wrong), in(lane, "seen(1,L,0)=NOT"));
            }
            b.run(BOOKS + row(1, lane, 0, 20, 0), in(lane, "seen(1,L,0)=0"));
            b.refused(row(1, lane, 1, 1), in(lane, "seen(1,L,0)=NOT seen(1,L,2)=NOT"));
            b.refused(row(1, lane), in(lane, "seen(1,L,0)=NOT"));
        }
        b.refused(BOOKS + row(1, 3, 1L << 32, 1, 1), "seen(1,3,0)=NOT");
        b.refused(BOOKS + row(1, 3, (1L << 40) + 1, 2, 1), "seen(1,3,0)=NOT");
    }

    private static void film() {
        b.at("Promise 27", "How many WORDS are NEW at each PLACE of THE ORDER, an item each, come to a SHEET likewise: how many.");
        for (int lane = 0; lane < 4; lane++) {
            String given = BOOKS + row(1, lane, 9, 9, 9, 9, 9);
            b.same(in(lane, given + " film(1,L,0)"), BOOKS + row(1, lane, 3, 0, 1, 9, 9));
            b.same(in(lane, given + " film(1,L,2)"), BOOKS + row(1, lane, 9, 9, 3, 0, 1));
            b.same(in(lane, given + " move(0,2) film(1,L,1)"), BOOKS + " move(0,2)" + row(1, lane, 9, 1, 2, 1, 9));
            b.run(given, in(lane, "film(1,L,0)=3 film(1,L,1)=3 film(1,L,2)=3"));
            b.run("book(ALL)" + row(0, lane, 9), in(lane, "film(0,L,0)=1 seen(0,L,0)=1"));
            b.run(SEVEN + row(0, lane, new long[24]), in(lane, "film(0,L,17)=7 seen(0,L,17)=5040 film(0,L,0)=7 seen(0,L,0)=5040"));
        }

        b.at("Promise 27", "BAD;");
        b.refused(NEW, "film(-1,0,0)=BAD film(4,0,0)=BAD film(0,-1,0)=BAD film(0,4,0)=BAD");
        b.refused(RICH, "film(-1,0,0)=BAD film(4,0,0)=BAD film(MAX,0,0)=BAD film(MIN,0,0)=BAD");
        b.refused(RICH, "film(0,-1,0)=BAD film(0,4,0)=BAD film(0,MAX,0)=BAD film(0,MIN,0)=BAD film(3,4,9)=BAD");

        b.at("Promise 27", "NULL;");
        b.refused(NEW, "film(0,0,0)=NULL film(3,3,-1)=NULL");
        b.refused(RICH, "film(3,0,0)=NULL film(3,3,-1)=NULL film(3,1,MAX)=NULL");

        b.at("Promise 27", "CAST;");
        b.refused("sheet(0,0,2)", "film(0,1,0)=CAST film(0,3,-1)=CAST");
        b.refused(RICH, "film(0,1,0)=CAST film(0,2,0)=CAST film(0,3,0)=CAST film(2,1,0)=CAST film(2,3,-1)=CAST film(1,0,99)=CAST");

        b.at("Promise 27", "INDEX (of none, too: i below 0, or above how many there are).");
        for (int lane = 0; lane < 4; lane++) {
            String given = BOOKS + row(1, lane, 9, 8, 7, 6);
            b.refused(given, in(lane, "film(1,L,2)=INDEX film(1,L,3)=INDEX film(1,L,4)=INDEX film(1,L,-1)=INDEX film(1,L,-3)=INDEX"
                + " film(1,L,MAX)=INDEX film(1,L,MIN)=INDEX film(1,L,2147483645)=INDEX"));
            b.refused(row(1, lane, 9, 8), in(lane, "film(1,L,-1)=INDEX film(1,L,3)=INDEX film(1,L,MAX)=INDEX film(1,L,MIN)=INDEX"));
            b.run(row(1, lane, 9, 8), in(lane, "film(1,L,0)=0 film(1,L,1)=0 film(1,L,2)=0"));
            b.same(row(1, lane, 9, 8) + in(lane, " film(1,L,0) film(1,L,2)"), row(1, lane, 9, 8));
            b.refused(row(1, lane), in(lane, "film(1,L,-1)=INDEX film(1,L,1)=INDEX"));
            b.run(row(1, lane), in(lane, "film(1,L,0)=0"));
        }
    }

    private static void sheet() {
        b.at("Promise 28", "A SHEET holds a new row of a LANE: n.");
        for (int lane = 0; lane < 4; lane++) {
            b.run(NEW, in(lane, "sheet(0,L,0)=0 drop(0)=0 sheet(3,L,24)=24 drop(3)=24 sheet(1,L,1)=1 drop(1)=1"));
            // A new row is all 0, whatever stood there.
            b.same("book(1)" + row(2, lane, 1, 1, 1, 1) + in(lane, " sheet(2,L,3)"), "book(1)" + row(2, lane, 0, 0, 0));
            b.same("book(1)" + row(2, lane, 1, 1) + in(lane, " sheet(2,M,4)"), in(lane, "book(1) sheet(2,M,4)"));
            b.same("book(1)" + row(2, lane, 1, 1, 1) + in(lane, " sheet(2,L,1) sheet(2,L,3)"), in(lane, "book(1) sheet(2,L,3)"));
        }

        b.at("Promise 28", "BAD: also n above 24;");
        b.refused(RICH, "sheet(-1,0,1)=BAD sheet(4,0,1)=BAD sheet(MAX,0,1)=BAD sheet(MIN,0,1)=BAD");
        b.refused(RICH, "sheet(0,-1,1)=BAD sheet(0,4,1)=BAD sheet(0,MAX,1)=BAD sheet(0,MIN,1)=BAD");
        b.refused(RICH, "sheet(0,0,25)=BAD sheet(3,3,25)=BAD sheet(0,0,MAX)=BAD sheet(4,0,-1)=BAD sheet(0,4,-1)=BAD");
        b.refused(NEW, "sheet(0,0,25)=BAD sheet(-1,0,0)=BAD");

        b.at("Promise 28", "SIZE: n below 0.");
        b.refused(NEW, "sheet(0,0,-1)=SIZE sheet(3,3,MIN)=SIZE");
        b.refused(RICH, "sheet(0,0,-1)=SIZE sheet(1,0,-1)=SIZE sheet(3,3,-1)=SIZE sheet(2,2,MIN)=SIZE");
    }

    private static void drop() {
        b.at("Promise 29", "A SHEET holds nothing: how many items it had.");
        b.run(RICH, "drop(0)=3 drop(0)=NULL drop(1)=2 drop(2)=4 seen(2,2,0)=NULL");
        b.run("sheet(3,0,0) sheet(2,3,24)", "drop(3)=0 drop(3)=NULL drop(2)=24");
        b.same(RICH + " sheet(3,3,5) item(3,3,0,1) drop(3)", RICH);
        b.same("book(1)" + row(0, 1, 1, 1) + " drop(0) sheet(0,1,2)", "book(1) sheet(0,1,2)");

        b.at("Promise 29", "BAD;");
        b.refused(NEW, "drop(-1)=BAD drop(4)=BAD");
        b.refused(RICH, "drop(-1)=BAD drop(4)=BAD drop(MAX)=BAD drop(MIN)=BAD");

        b.at("Promise 29", "NULL.");
        b.refused(NEW, "drop(0)=NULL drop(1)=NULL drop(2)=NULL drop(3)=NULL");
        b.refused(RICH, "drop(3)=NULL");
        b.refused(RICH + " drop(2)", "drop(2)=NULL");
    }

    private static void item() {
        b.at("Promise 30", "Item i of a SHEET, taken as a row of a LANE, becomes v, its lowest bits (with its sign): 1.");
        // Of 5 and one bit more each lane keeps what its width holds.
        int[] width = {8, 16, 32, 64};
        for (int lane = 0; lane < 4; lane++) {
            b.same(row(1, lane, 5, 6, 7) + in(lane, " item(1,L,0,1) item(1,L,2,20)"), row(1, lane, 1, 6, 20));
            b.run(row(1, lane, new long[24]), in(lane, "item(1,L,0,1)=1 item(1,L,23,1)=1 item(1,L,23,LEAST)=1"
                + " item(1,L,0,LONGEST)=1"));
            for (int bit = 7; bit < 64; bit++) {
                String seen = bit < width[lane] ? "seen(0,L,0)=NOT" : "seen(0,L,0)=1";
                b.run("book(31)" + row(0, lane, (1L << bit) + 5), in(lane, seen));
                b.run("book(31)" + row(0, lane, 5 - (1L << bit)), in(lane, seen));
            }
            b.run("book(31)" + row(0, lane, -1), in(lane, "seen(0,L,0)=NOT"));
        }

        b.at("Promise 30", "BAD;");
        b.refused(NEW, "item(-1,0,0,1)=BAD item(4,0,0,1)=BAD item(0,-1,0,1)=BAD item(0,4,0,1)=BAD");
        b.refused(RICH, "item(-1,0,0,1)=BAD item(4,0,0,1)=BAD item(MAX,0,0,1)=BAD item(MIN,0,0,1)=BAD");
        b.refused(RICH, "item(0,-1,0,1)=BAD item(0,4,0,1)=BAD item(0,MAX,0,1)=BAD item(0,MIN,0,1)=BAD item(3,4,-1,1)=BAD");

        b.at("Promise 30", "NULL;");
        b.refused(NEW, "item(0,0,0,1)=NULL item(3,3,-1,1)=NULL");
        b.refused(RICH, "item(3,0,0,1)=NULL item(3,3,-1,1)=NULL");

        b.at("Promise 30", "CAST;");
        b.refused(RICH, "item(0,1,0,1)=CAST item(0,2,0,1)=CAST item(0,3,0,1)=CAST item(1,0,0,1)=CAST item(2,3,-1,1)=CAST"
            + " item(2,1,4,1)=CAST");

        b.at("Promise 30", "INDEX.");
        b.refused(RICH, "item(0,0,3,1)=INDEX item(0,0,-1,1)=INDEX item(0,0,MAX,1)=INDEX item(0,0,MIN,1)=INDEX item(1,1,2,1)=INDEX"
            + " item(2,2,4,1)=INDEX item(2,2,24,1)=INDEX");
        b.refused("sheet(3,3,0)", "item(3,3,0,1)=INDEX item(3,3,-1,1)=INDEX");
        b.refused("sheet(3,3,24)", "item(3,3,24,1)=INDEX");
    }

    private static void copy() {
        b.at("Promise 31", "n items of a SHEET from i on come to another one (or the same) from j on, as if all were taken"
            + " ahead: n.");
        for (int lane = 0; lane < 4; lane++) {
            String given = row(0, lane, 1, 2, 3, 4, 5) + row(1, lane, 9, 9, 9);
            b.run(given, in(lane, "copy(0,2,1,0,3)=3 copy(0,0,0,0,5)=5 copy(1,0,0,2,3)=3 copy(0,0,0,1,4)=4 copy(0,5,1,3,0)=0"));
            b.same(given + " copy(0,2,1,0,3)", row(0, lane, 1, 2, 3, 4, 5) + row(1, lane, 3, 4, 5));
            b.same(given + " copy(1,0,0,2,3)", row(0, lane, 1, 2, 9, 9, 9) + row(1, lane, 9, 9, 9));
            b.same(given + " copy(0,4,1,2,1)", row(0, lane, 1, 2, 3, 4, 5) + row(1, lane, 9, 9, 5));
            // The same sheet, both ways, all of it, none of it.
            b.same(given + " copy(0,0,0,1,4)", row(0, lane, 1, 1, 2, 3, 4) + row(1, lane, 9, 9, 9));
            b.same(given + " copy(0,1,0,0,4)", row(0, lane, 2, 3, 4, 5, 5) + row(1, lane, 9, 9, 9));
            b.same(given + " copy(0,0,0,0,5)", given);
            b.same(given + " copy(0,5,1,3,0) copy(0,0,1,0,0) copy(0,5,0,0,0)", given);
            b.run(row(0, lane, new long[24]) + row(1, lane, new long[24]), "copy(0,0,1,0,24)=24 copy(0,0,0,0,24)=24");
            b.run(row(0, lane) + row(1, lane), "copy(0,0,1,0,0)=0 copy(1,0,1,0,0)=0");
        }

        b.at("Promise 31", "BAD;");
        b.refused(NEW, "copy(-1,0,0,0,0)=BAD copy(0,0,4,0,0)=BAD");
        b.refused(RICH, "copy(-1,0,0,0,1)=BAD copy(4,0,0,0,1)=BAD copy(MAX,0,0,0,1)=BAD copy(MIN,0,0,0,1)=BAD");
        b.refused(RICH, "copy(0,0,-1,0,1)=BAD copy(0,0,4,0,1)=BAD copy(0,0,MAX,0,1)=BAD copy(0,0,MIN,0,1)=BAD");
        b.refused(RICH, "copy(3,0,4,0,1)=BAD copy(4,0,3,0,-1)=BAD");

        b.at("Promise 31", "NULL (either);");
        b.refused(NEW, "copy(0,0,0,0,0)=NULL copy(0,0,1,0,-1)=NULL");
        b.refused(RICH, "copy(3,0,0,0,1)=NULL copy(0,0,3,0,1)=NULL copy(3,0,3,0,1)=NULL copy(3,-1,0,0,1)=NULL"
            + " copy(0,0,3,9,-1)=NULL");

        b.at("Promise 31", "CAST: of unlike LANES;");
        b.refused(RICH, "copy(0,0,1,0,1)=CAST copy(1,0,2,0,1)=CAST copy(2,0,0,0,0)=CAST copy(0,-1,1,0,1)=CAST"
            + " copy(0,0,2,0,-1)=CAST");
        b.refused("sheet(0,2,3) sheet(1,3,3)", "copy(0,0,1,0,1)=CAST copy(1,0,0,0,3)=CAST");

        b.at("Promise 31", "INDEX (n below 0, too; of n 0, too, if i or j is below 0 or above how many there are).");
        for (int lane = 0; lane < 4; lane++) {
            String given = row(0, lane, 1, 2, 3, 4, 5) + row(1, lane, 9, 8, 7);
            b.refused(given, "copy(0,0,1,0,4)=INDEX copy(0,3,1,0,3)=INDEX copy(0,0,1,1,3)=INDEX copy(0,5,1,0,1)=INDEX"
                + " copy(0,0,1,3,1)=INDEX copy(0,-1,1,0,1)=INDEX copy(0,0,1,-1,1)=INDEX copy(0,-1,0,0,2)=INDEX");
            b.refused(given, "copy(0,0,1,0,-1)=INDEX copy(0,0,1,0,MIN)=INDEX copy(0,1,1,1,-1)=INDEX copy(0,0,0,0,6)=INDEX"
                + " copy(1,0,0,0,4)=INDEX copy(0,1,0,0,5)=INDEX copy(0,0,0,1,5)=INDEX");
            b.refused(given, "copy(0,-1,1,0,0)=INDEX copy(0,0,1,-1,0)=INDEX copy(0,6,1,0,0)=INDEX copy(0,0,1,4,0)=INDEX"
                + " copy(0,MAX,1,0,0)=INDEX copy(0,0,1,MIN,0)=INDEX");
            // Sums that go beyond an int.
            b.refused(given, "copy(0,MAX,1,0,1)=INDEX copy(0,1,1,0,MAX)=INDEX copy(0,0,1,MAX,2)=INDEX copy(0,MAX,1,MAX,MAX)=INDEX"
                + " copy(0,MIN,1,MIN,MIN)=INDEX copy(0,MIN,1,0,MAX)=INDEX copy(0,3,1,0,MIN)=INDEX");
            b.refused(row(2, lane), "copy(2,0,2,0,1)=INDEX copy(2,1,2,0,0)=INDEX copy(2,0,2,-1,0)=INDEX");
        }
    }
}
