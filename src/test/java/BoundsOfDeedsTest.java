/** The boundary cases of promises 19 to 25: what is done. */
public final class BoundsOfDeedsTest {
    private static final String NEW = Given.NEW, RICH = Given.RICH, THREE = Given.THREE;
    private static final Bounds b = new Bounds();

    public static void main(String[] args) {
        type();
        read();
        drift();
        undo();
        seed();
        image();
        restore();
        b.closePromises(19, 25);
    }

    private static void type() {
        b.at("Promise 19", "One letter more behind THE TAPE: how many it has.");
        b.run(NEW, "type(32)=1 type(126)=2 type(97)=3 read()=-21 type(97)=1");
        b.run("text[" + "a".repeat(88) + "]", "type(97)=89 type(97)=90");
        b.run(NEW, "text[steady2:] type(97)=9 read()=1 told(0,0)=1");
        b.run(NEW, "text[steady2:] type(116)=9 read()=1 told(0,0)=524288");

        b.at("Promise 19", "BAD: not 32 .. 126;");
        b.refused(NEW, "type(31)=BAD type(127)=BAD type(0)=BAD");
        b.refused(RICH, "type(31)=BAD type(127)=BAD type(128)=BAD type(0)=BAD type(-1)=BAD type(256)=BAD type(MAX)=BAD"
            + " type(MIN)=BAD");
        // None of these is cut to a letter: 97 and 65536 more, 256 more.
        b.refused(RICH, "type(65633)=BAD type(353)=BAD");

        b.at("Promise 19", "FULL: 90.");
        String full = "book(3) text[steady2:" + "ab".repeat(41) + "]";
        b.refused(full, "type(97)=FULL type(32)=FULL type(126)=FULL");
        b.refused(full, "type(31)=BAD type(127)=BAD");
        b.run(full, "type(97)=FULL read()=1 type(97)=1");
    }

    private static void read() {
        b.at("Promise 20", "THE TAPE, which is empty then (whatever is answered), is a TEXT: how many BOOKS.");
        b.run(NEW, "text[steady1:a] read()=1 type(97)=1");
        b.run(NEW, "text[steady1;a] read()=-27 type(97)=1");
        b.run(NEW, "read()=-20 type(97)=1");
        b.run(NEW, "text[doubling4:a,b,c,d,e,f,t;60] read()=7 count(0)=7 count(2)=4 count(4)=2 told(6,0)=524288 told(6,1)=1");
        b.run(NEW, "text[steady2:" + "a".repeat(82) + "] type(97)=FULL read()=1 told(0,0)=1 type(97)=1");
        // Told again it is a text once more, and may be undone.
        b.run(NEW, "text[steady2:a] read()=1 text[steady2:a] read()=1 count(10)=2 undo()=1 count(0)=1 undo()=0 count(0)=0");
        // All that a text does not tell stays: PRIOR, BOUND, THE DRAW, IMAGES, SHEETS.
        b.same("prior(2) tell(1,0) seed(5) image() sheet(1,0,2) item(1,0,0,3) text[steady2:a,b] read()",
            "prior(2) tell(1,0) seed(5) image() text[steady2:a,b] read() sheet(1,0,2) item(1,0,0,3)");
        b.run("prior(2) tell(1,0) seed(5)", "text[growing3:ab] read()=1 count(1)=2 count(3)=0 seed(5)=5");

        b.at("Promise 20", "A FAULT: -20 less its place (all else stays).");
        b.fault("", 0);
        b.fault("x", 0);
        b.fault("  x", 2);
        b.fault("steady", 6);
        b.fault("steady0:a", 6);
        b.fault("steady5:a", 6);
        b.fault("steady2", 7);
        b.fault("steady2:", 8);
        b.fault("steady2:u", 8);
        b.fault("steady2:a,b;", 12);
        b.fault("steady2:" + "a".repeat(81) + ",", 90);
        b.fault("steady2:" + "a".repeat(81) + "u", 89);
        b.fault(" ".repeat(90), 90);
        // With all six known none is lost by it.
        b.same("book(1) book(2) book(4) book(8) book(16) book(32) seed(3) text[steady2:a,] read()",
            "book(1) book(2) book(4) book(8) book(16) book(32) seed(3)");
    }

    private static void drift() {
        b.at("Promise 21", "A DRIFT of n turns (1 .. 40; each may be UNDONE): how many BOOKS then.");
        b.run(NEW, "drift(1)=0 count(10)=1 undo()=0 seed(1)=1");
        b.run(NEW, "drift(5) count(10)=5 drift(1) count(10)=6 drift(1) count(10)=6");
        b.run(NEW, "drift(40) count(10)=6 undo()=5 undo()=4 undo()=3 undo()=2 undo()=1 undo()=0 undo()=NONE");
        for (int seed : new int[] {0, 1, 77, 4711, Integer.MAX_VALUE}) {
            String seeded = "seed(" + seed + ")";
            b.same(seeded + " drift(40)", seeded + " " + Given.times(40, "drift(1)"));
            b.same(seeded + " drift(3) undo()", seeded + " drift(2)");
            b.due(seeded + " drift(40)", new Play(seeded).make("drift(40)"), new Play(seeded + " drift(40)").make("count(0)"));
        }

        b.at("Promise 21", "BAD.");
        b.refused(NEW, "drift(0)=BAD drift(41)=BAD");
        b.refused(RICH, "drift(0)=BAD drift(-1)=BAD drift(41)=BAD drift(MAX)=BAD drift(MIN)=BAD");
    }

    private static void undo() {
        b.at("Promise 22", "UNDONE: how many more may be.");
        for (String change : Given.CHANGES) {
            b.same(THREE + " " + change + " undo()", THREE);
        }
        b.run("book(1) book(2)", "undo()=1 count(0)=1 undo()=0 count(0)=0 undo()=NONE");
        b.run(Given.times(7, "book(1)"), "undo()=5 undo()=4 undo()=3 undo()=2 undo()=1 undo()=0 count(0)=1");
        b.run(Given.times(6, "book(1)"), "undo()=5 undo()=4 undo()=3 undo()=2 undo()=1 undo()=0 count(0)=0");
        // What is undone is not known any longer; what is told then is.
        b.run("book(1) book(2) undo() book(4)", "count(10)=2 told(1,0)=4 undo()=1 undo()=0 undo()=NONE");

        b.at("Promise 22", "NONE: none is known.");
        b.refused(NEW, "undo()=NONE");
        b.refused("book(1) undo()", "undo()=NONE");
        b.refused("seed(5) sheet(0,0,1) text[ab] image() restore() book(0) move(0,0)", "undo()=NONE");
        b.refused(Given.times(7, "book(1)") + Given.times(6, "undo()"), "undo()=NONE");
    }

    private static void seed() {
        b.at("Promise 23", "THE DRAW becomes v: what it was.");
        b.run(NEW, "seed(0)=1 seed(MAX)=0 seed(5)=2147483647 seed(5)=5 count(10)=0");

        b.at("Promise 23", "BAD: below 0.");
        b.refused(NEW, "seed(-1)=BAD seed(MIN)=BAD");
        b.refused(RICH, "seed(-1)=BAD seed(MIN)=BAD seed(-12345)=BAD");
    }

    private static void image() {
        b.at("Promise 24", "All but SHEETS, THE TAPE is kept as an IMAGE: 1.");
        b.run(NEW, "image()=1 image()=1 count(10)=0");
        for (String change : Given.CHANGES) {
            b.same(THREE + " " + change + " image() restore()", THREE + " " + change + " image()");
            b.same(THREE + " image() " + change + " restore()", THREE + " image()");
        }
        String sheets = " sheet(1,1,2) item(1,1,0,3) drop(0) text[,d]";
        b.same(RICH + " image() lose(0) settle(0) seed(1) undo() drift(9)" + sheets + " restore()", RICH + " image()" + sheets);
        // Six known ones are kept with it, and none that came later.
        b.run(Given.times(7, "book(1)") + "image() undo() undo() lose(0)", "restore()=1 count(10)=6 count(0)=7 undo()=5"
            + " count(0)=6");
        // The latest one counts.
        b.run("book(1) image() book(2) image() lose(0)", "restore()=1 count(0)=2 told(0,0)=1 told(1,0)=2");
        b.run("image() book(1)", "restore()=1 count(0)=0 count(10)=0 undo()=NONE");
    }

    private static void restore() {
        b.at("Promise 25", "All is as it was then: 1.");
        // Again and again, of whatever was done since; an undo does not take it away, nor does what is undone.
        b.run(THREE + " image()", "restore()=1 lose(0)=2 restore()=1 count(0)=3 undo()=0 count(0)=0 restore()=1 count(0)=3");
        b.run("book(1) image() undo()", "restore()=1 count(0)=1 count(10)=1");
        b.same(THREE + " image() drift(40) restore()", THREE + " image()");
        b.same(THREE + " image() restore() restore()", THREE + " image()");
        // It is not among what may be undone.
        b.run(THREE + " image() book(1) book(2)", "restore()=1 count(10)=1 undo()=0");

        b.at("Promise 25", "NONE: there is none.");
        b.refused(NEW, "restore()=NONE");
        b.refused("book(3) book(4) ahead(0,1) drift(3) undo() sheet(0,0,2) text[growing3:ab,c]", "restore()=NONE");
    }
}
