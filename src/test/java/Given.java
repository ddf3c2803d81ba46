/** Runs behind which cases are made. */
final class Given {
    static final String NEW = "";

    /**
     * Four books (abc, ad, cdk, b), 0 ahead of 2 and 3 ahead of 1, THE ORDER 0312, d PRIOR, SPAN 3, BOUND 4, GROWING, six
     * changes known, an image of what stood earlier, sheets of three lanes, a tape of a text that might still go on.
     */
    static final String RICH = "book(7) book(9) book(1036) book(2) ahead(0,2) ahead(3,1) seed(99) image() tell(0,3)"
        + " tell(1,4) tell(2,1) prior(8) move(3,1) seed(12345) sheet(0,0,3) item(0,0,0,2) item(0,0,2,5) sheet(1,1,2)"
        + " item(1,1,1,7) sheet(2,2,4) item(2,2,0,1) item(2,2,3,4) text[growing3:ab,c]";

    /** Seven books of one word each, a .. g, told one by one; 6 is ahead of 0. */
    static final String SEVEN = "book(1) book(2) book(4) book(8) book(16) book(32) book(64) ahead(6,0)"
        + " sheet(3,3,8) item(3,3,7,1) text[steady]";

    /** Two books (ab, c), 1 ahead of 0, b PRIOR, SPAN 4, DOUBLING; no tape. */
    static final String TWO = "book(3) book(4) ahead(1,0) tell(0,4) tell(2,2) prior(2) seed(5)";

    /** Three books by one text, so that but one change is known: ab, bc, c; 0 is ahead of 1. */
    static final String THREE = "text[steady2:ab,bc,c;01] read() seed(7)";

    /** Seven books by one text, a .. g, none ahead of another. */
    static final String SEVEN_BY_TEXT = "text[steady2:a,b,c,d,e,f,g] read() seed(7)";

    /** Behind THREE each way to change what may be undone. */
    static final String[] CHANGES = {"book(1)", "words(0,1)", "lose(0)", "lose(2)", "ahead(0,1)", "ahead(2,0)", "prior(1)",
        "tell(0,1)", "tell(1,0)", "tell(2,2)", "move(0,2)", "move(2,0)", "settle(0)", "settle(1)", "text[growing1:t] read()", "drift(1)"};

    private Given() { }

    static String times(int n, String run) {
        return (run + " ").repeat(n);
    }
}
