/** THE DRAW reckoned by the document's words, forth and back, and seeds whose turn makes a call that is wanted. */
final class Draws {
    static final long MANY = 1L << 31;
    private static final long TIMES = 1103515245L, MORE = 12345L;

    private Draws() { }

    static long goOn(long draw) {
        return (draw * TIMES + MORE) % MANY;
    }

    /** The draw that goes on to this one: what undoes the multiplication is found bit by bit. */
    static long goBack(long draw) {
        long want = Math.floorMod(draw - MORE, MANY), was = 0;
        for (int bit = 0; bit < 31; bit++) {
            if ((was * TIMES >> bit & 1) != (want >> bit & 1)) was |= 1L << bit;
        }
        return was;
    }

    /** The call of the turn behind a seed, by the document's words. */
    static String callOf(long seed) {
        long x = goOn(seed) / 65536, s = goOn(goOn(seed)) / 2048 % 1048576;
        switch ((int) (x % 8)) {
            case 0: case 1: return "book(" + s + ")";
            case 2: return "words(" + x / 8 % 7 + "," + s + ")";
            case 3: return "ahead(" + x / 8 % 7 + "," + x / 64 % 7 + ")";
            case 4: case 5: return "move(" + x / 8 % 7 + "," + x / 64 % 7 + ")";
            case 6: return "tell(0," + (x / 8 % 4 + 1) + ")";
            default: return "tell(2," + x / 8 % 3 + ")";
        }
    }

    /** A seed whose turn is of a kind and makes this call; by way of x, for calls that have no s. */
    static long seedOf(int kind, String call) {
        for (long x = kind; x < 32768; x += 8) {
            long seed = goBack(x * 65536 + 4321);
            if (callOf(seed).equals(call)) return seed;
        }
        throw new IllegalArgumentException("no turn makes " + call);
    }

    /** A seed whose turn is of a kind and draws this s; by way of the second draw. */
    static long seedWith(int kind, int s) {
        for (long low = 0; low < 2048; low++) {
            long first = goBack(s * 2048L + low);
            if (first / 65536 % 8 == kind) return goBack(first);
        }
        throw new IllegalArgumentException("no turn of kind " + kind + " draws " + s);
    }
}
