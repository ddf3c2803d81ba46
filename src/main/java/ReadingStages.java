/** Reading in stages: ../shared/DOC.md says what each call answers. */
public final class ReadingStages {
    public static final int BAD = -1, NOT = -2, FULL = -3, NONE = -4, NULL = -11, CAST = -12, INDEX = -13, SIZE = -14;

    private static final int WORDS = 20;
    private static final int ALL_WORDS = (1 << WORDS) - 1;
    private static final int BOOKS = 7;
    private static final int ALL_ORDERS = 5040;
    private static final int MOST_STRENGTH = 9;
    private static final int TAPE = 90;
    private static final int NOTE = 64;
    private static final int FAULT = -20;
    private static final int KNOWN = 6;
    private static final int TURNS = 40;
    private static final int LOWEST_31_BITS = 0x7fffffff;
    private static final int TENTHS = 10;
    private static final int SHEETS = 4;
    private static final int LANES = 4;
    private static final int ITEMS = 24;
    private static final int NOTHING = -1;

    private static final int STEADY = 0, GROWING = 1, DOUBLING = 2, RULES = 3;
    private static final String STEADY_NAME = "steady";
    private static final String GROWING_NAME = "growing";
    private static final String DOUBLING_NAME = "doubling";
    private static final String NO_BOOKS = "none";

    private final State now = new State();
    private final State before = new State();
    private final Past past = new Past();
    private final State imageNow = new State();
    private final Past imagePast = new Past();
    private boolean hasImage;
    private final Parser parser = new Parser();
    private final Letters note = new Letters(NOTE);
    private final Reading reading = new Reading();
    private final Search search = new Search();
    private final Sheet[] sheets = new Sheet[SHEETS];

    public ReadingStages() {
        for (int s = 0; s < SHEETS; s++) {
            sheets[s] = new Sheet();
        }
    }

    // ---- 1 books, orders

    public int book(int set) {
        before.takeFrom(now);
        return remembered(now.addBook(set));
    }

    public int words(int k, int set) {
        before.takeFrom(now);
        return remembered(now.changeWords(k, set));
    }

    public int lose(int k) {
        before.takeFrom(now);
        return remembered(now.removeBook(k));
    }

    public int ahead(int a, int b) {
        before.takeFrom(now);
        return remembered(now.turnAhead(a, b));
    }

    public int prior(int set) {
        before.takeFrom(now);
        return remembered(now.changePrior(set));
    }

    public int tell(int what, int v) {
        before.takeFrom(now);
        return remembered(now.changeRules(what, v));
    }

    public int move(int p, int q) {
        before.takeFrom(now);
        return remembered(now.moveBook(p, q));
    }

    public int settle(int what) {
        if (what < 0 || what > 1) {
            return BAD;
        }
        if (now.n == 0) {
            return NOT;
        }
        seekBestOrGrown(what == 1);
        before.takeFrom(now);
        return remembered(now.changeOrder(search.found));
    }

    public int place(int p, int what) {
        if (!now.isBook(p) || what < 0 || what > 6) {
            return BAD;
        }
        reading.readOrder(now);
        switch (what) {
            case 0: return now.order[p];
            case 1: return Integer.bitCount(reading.fresh[p]);
            case 2: return Integer.bitCount(reading.again[p]);
            case 3: return Integer.bitCount(reading.lost[p]);
            case 4: return reading.fresh[p];
            case 5: return reading.lost[p];
            default: return reading.knownAhead(p + 1);
        }
    }

    public int word(int w, int what) {
        if (w < 0 || w >= WORDS || what < 0 || what > 4) {
            return BAD;
        }
        reading.readOrder(now);
        switch (what) {
            case 0: return firstWith(reading.fresh, w);
            case 1: return reading.strengthBehindAll(w);
            case 2: return howManyWith(reading.fresh, w);
            case 3: return howManyWith(reading.lost, w);
            default: return howManyWith(now.sets, w);
        }
    }

    public int told(int k, int what) {
        if (!now.isBook(k) || what < 0 || what > 3) {
            return BAD;
        }
        switch (what) {
            case 0: return now.sets[k];
            case 1: return now.followers[k];
            case 2: return now.leaders(k);
            default: return now.placeOf(k);
        }
    }

    public int count(int what) {
        switch (what) {
            case 0: return now.n;
            case 1: return now.prior;
            case 2: return now.span;
            case 3: return now.bound;
            case 4: return now.rule;
            case 5: return now.number(now.order);
            case 10: return past.size;
            default: return what < 0 || what > 10 ? BAD : countOfReading(what);
        }
    }

    // ---- 2 all orders

    public int best(int what) {
        if (what < 0 || what > 5) {
            return BAD;
        }
        seekBestOrGrown(what > 2);
        switch (what % 3) {
            case 0: return now.number(search.found);
            case 1: return search.peak;
            default: return search.loss;
        }
    }

    public int many(int what) {
        if (what < 0 || what > 1) {
            return BAD;
        }
        search.prepare(now);
        if (what == 1) {
            search.limitFresh(now.bound);
        }
        search.seek();
        return search.count;
    }

    public int fit(int k) {
        if (k < 0) {
            return BAD;
        }
        search.prepare(now);
        search.limitFresh(now.bound);
        search.wanted = k;
        search.seek();
        return search.count > k ? now.number(search.found) : NONE;
    }

    public int kept(int w, int c, int what) {
        if (w < 0 || w >= WORDS || c < 0 || c > TENTHS || what < 0 || what > 1) {
            return BAD;
        }
        int places = placesWith(w);
        int above = waysToKeep(places, c);
        int below = power(TENTHS, Integer.bitCount(places));
        int divisor = greatestDivisor(above, below);
        if (divisor == 0) {
            return BAD;
        }
        return (what == 0 ? above : below) / divisor;
    }

    public int letter(int k) {
        if (k < 0) {
            return BAD;
        }
        writeNote();
        return k < note.size ? note.at(k) : NONE;
    }

    // ---- 3 what is done

    public int type(int letter) {
        if (letter < 32 || letter > 126) {
            return BAD;
        }
        return parser.tape.add((char) letter) ? parser.tape.size : FULL;
    }

    public int read() {
        boolean isText = parser.parses(now);
        parser.tape.size = 0;
        if (!isText) {
            return FAULT - parser.at;
        }
        past.keep(now);
        now.takeFrom(parser.draft);
        return now.n;
    }

    public int drift(int n) {
        if (n < 1 || n > TURNS) {
            return BAD;
        }
        for (int i = 0; i < n; i++) {
            past.keep(now);
            takeTurn();
        }
        return now.n;
    }

    public int undo() {
        return past.bringBack(now) ? past.size : NONE;
    }

    public int seed(int v) {
        if (v < 0) {
            return BAD;
        }
        int was = now.draw;
        now.draw = v;
        return was;
    }

    public int image() {
        imageNow.takeFrom(now);
        imagePast.takeFrom(past);
        hasImage = true;
        return 1;
    }

    public int restore() {
        if (!hasImage) {
            return NONE;
        }
        now.takeFrom(imageNow);
        past.takeFrom(imagePast);
        return 1;
    }

    // ---- sheets 0 .. 3: nothing (at first), or a row of a LANE: 0 bytes, 1 shorts, 2 ints, 3 longs, of 0 to 24 items

    public int seen(int sheet, int lane, int i) {
        int fault = faultOfRow(sheet, lane, i, now.n);
        if (fault != 0) {
            return fault;
        }
        if (now.n == 0) {
            return NOT;
        }
        search.prepare(now);
        search.forgetLeaders();
        for (int p = 0; p < now.n; p++) {
            long item = sheets[sheet].items[i + p];
            if (item < 0 || item > WORDS) {
                return NOT;
            }
            search.wantFresh(p, (int) item);
        }
        search.seek();
        return search.count;
    }

    public int film(int sheet, int lane, int i) {
        int fault = faultOfRow(sheet, lane, i, now.n);
        if (fault != 0) {
            return fault;
        }
        reading.readOrder(now);
        for (int p = 0; p < now.n; p++) {
            sheets[sheet].put(i + p, Integer.bitCount(reading.fresh[p]));
        }
        return now.n;
    }

    public int sheet(int sheet, int lane, int n) {
        if (!isSheet(sheet) || !isLane(lane) || n > ITEMS) {
            return BAD;
        }
        if (n < 0) {
            return SIZE;
        }
        sheets[sheet].renew(lane, n);
        return n;
    }

    public int drop(int sheet) {
        if (!isSheet(sheet)) {
            return BAD;
        }
        if (sheets[sheet].lane == NOTHING) {
            return NULL;
        }
        int had = sheets[sheet].size;
        sheets[sheet].renew(NOTHING, 0);
        return had;
    }

    public int item(int sheet, int lane, int i, long v) {
        int fault = faultOfRow(sheet, lane, i, 1);
        if (fault != 0) {
            return fault;
        }
        sheets[sheet].put(i, v);
        return 1;
    }

    public int copy(int from, int i, int to, int j, int n) {
        if (!isSheet(from) || !isSheet(to)) {
            return BAD;
        }
        Sheet source = sheets[from];
        Sheet target = sheets[to];
        if (source.lane == NOTHING || target.lane == NOTHING) {
            return NULL;
        }
        if (source.lane != target.lane) {
            return CAST;
        }
        if (!source.has(i, n) || !target.has(j, n)) {
            return INDEX;
        }
        System.arraycopy(source.items, i, target.items, j, n);
        return n;
    }

    // ---- parts of the calls

    /** What a change answered; if it was not refused, what stood ahead of it may be UNDONE. */
    private int remembered(int answer) {
        if (answer >= 0) {
            past.keep(before);
        }
        return answer;
    }

    /** One turn of a DRIFT; what is refused in it changes nothing but THE DRAW. */
    private void takeTurn() {
        now.goOn();
        int x = now.draw / 65536;
        now.goOn();
        int s = now.draw / 2048 % (ALL_WORDS + 1);
        int first = x / 8 % BOOKS;
        int second = x / 64 % BOOKS;
        switch (x % 8) {
            case 0: case 1: now.addBook(s); break;
            case 2: now.changeWords(first, s); break;
            case 3: now.turnAhead(first, second); break;
            case 4: case 5: now.moveBook(first, second); break;
            case 6: now.changeRules(0, x / 8 % 4 + 1); break;
            default: now.changeRules(2, x / 8 % RULES); break;
        }
    }

    private void seekBestOrGrown(boolean grown) {
        search.prepare(now);
        if (grown) {
            search.grow();
        } else {
            search.seekLeast();
        }
    }

    private int countOfReading(int what) {
        reading.readOrder(now);
        boolean fits = now.holds() && reading.peak() <= now.bound;
        switch (what) {
            case 6: return reading.peak();
            case 7: return reading.loss();
            case 8: return now.holds() ? 1 : 0;
            default: return fits ? 1 : 0;
        }
    }

    private int firstWith(int[] rows, int w) {
        for (int p = 0; p < now.n; p++) {
            if (hasBit(rows[p], w)) {
                return p;
            }
        }
        return NONE;
    }

    private int howManyWith(int[] rows, int w) {
        int many = 0;
        for (int p = 0; p < now.n; p++) {
            if (hasBit(rows[p], w)) {
                many++;
            }
        }
        return many;
    }

    /** The PLACES of THE ORDER whose BOOK has a WORD (none, if it is PRIOR), as bits. */
    private int placesWith(int w) {
        int places = 0;
        for (int p = 0; p < now.n; p++) {
            if (hasBit(now.wordsThatCount(now.order[p]), w)) {
                places |= 1 << p;
            }
        }
        return places;
    }

    /** By how many ways, of 10 to the number of places, a WORD met at those places that are not missed is known at the end. */
    private int waysToKeep(int places, int c) {
        reading.begin(now);
        int ways = 0;
        for (int taken = 0; taken < (1 << now.n); taken++) {
            if ((taken & ~places) == 0 && reading.keepsWordMetAt(taken)) {
                int met = Integer.bitCount(taken);
                int missed = Integer.bitCount(places) - met;
                ways += power(TENTHS - c, met) * power(c, missed);
            }
        }
        return ways;
    }

    private void writeNote() {
        note.size = 0;
        if (now.n == 0) {
            for (int i = 0; i < NO_BOOKS.length(); i++) {
                note.add(NO_BOOKS.charAt(i));
            }
        }
        reading.readOrder(now);
        for (int p = 0; p < now.n; p++) {
            if (p > 0) {
                note.add(' ');
            }
            note.addNumber(now.order[p]);
            note.add('+');
            note.addNumber(Integer.bitCount(reading.fresh[p]));
            if (reading.lost[p] != 0) {
                note.add('-');
                note.addNumber(Integer.bitCount(reading.lost[p]));
            }
        }
    }

    /** What is wrong with n items from i on of a SHEET taken as a row of a LANE; 0, if nothing is. */
    private int faultOfRow(int sheet, int lane, int i, int n) {
        if (!isSheet(sheet) || !isLane(lane)) {
            return BAD;
        }
        if (sheets[sheet].lane == NOTHING) {
            return NULL;
        }
        if (sheets[sheet].lane != lane) {
            return CAST;
        }
        return sheets[sheet].has(i, n) ? 0 : INDEX;
    }

    private static boolean isSheet(int sheet) {
        return sheet >= 0 && sheet < SHEETS;
    }

    private static boolean isLane(int lane) {
        return lane >= 0 && lane < LANES;
    }

    private static boolean hasBit(int set, int bit) {
        return ((set >> bit) & 1) != 0;
    }

    private static int power(int base, int exponent) {
        int product = 1;
        for (int i = 0; i < exponent; i++) {
            product *= base;
        }
        return product;
    }

    private static int greatestDivisor(int a, int b) {
        int high = a;
        int low = b;
        // Euclid's steps on ints are fewer than 64.
        for (int i = 0; i < 64 && low != 0; i++) {
            int rest = high % low;
            high = low;
            low = rest;
        }
        return high;
    }

    /** BOOKS, rules, THE ORDER, THE DRAW: all that an UNDO brings back. What a change refuses it leaves as it was. */
    private static final class State {
        final int[] sets = new int[BOOKS];
        final int[] followers = new int[BOOKS];
        final int[] order = new int[BOOKS];
        int n;
        int prior;
        int span = 2;
        int bound = 5;
        int rule = STEADY;
        int draw = 1;

        void takeFrom(State other) {
            System.arraycopy(other.sets, 0, sets, 0, BOOKS);
            System.arraycopy(other.followers, 0, followers, 0, BOOKS);
            System.arraycopy(other.order, 0, order, 0, BOOKS);
            n = other.n;
            prior = other.prior;
            span = other.span;
            bound = other.bound;
            rule = other.rule;
            draw = other.draw;
        }

        void goOn() {
            draw = (draw * 1103515245 + 12345) & LOWEST_31_BITS;
        }

        /** PLACES have the same numbers as BOOKS. */
        boolean isBook(int k) {
            return k >= 0 && k < n;
        }

        private static boolean isSetOfBook(int set) {
            return set > 0 && set <= ALL_WORDS;
        }

        int addBook(int set) {
            if (!isSetOfBook(set)) {
                return BAD;
            }
            if (n >= BOOKS) {
                return FULL;
            }
            sets[n] = set;
            followers[n] = 0;
            order[n] = n;
            n++;
            return n - 1;
        }

        int changeWords(int k, int set) {
            if (!isBook(k) || !isSetOfBook(set)) {
                return BAD;
            }
            int was = sets[k];
            if (was == set) {
                return NOT;
            }
            sets[k] = set;
            return was;
        }

        int removeBook(int k) {
            if (!isBook(k)) {
                return BAD;
            }
            closeGap(order, placeOf(k));
            closeGap(sets, k);
            closeGap(followers, k);
            n--;
            for (int i = 0; i < n; i++) {
                followers[i] = withoutBit(followers[i], k);
                if (order[i] > k) {
                    order[i]--;
                }
            }
            return n;
        }

        private void closeGap(int[] row, int at) {
            for (int i = Math.max(0, at); i + 1 < n; i++) {
                row[i] = row[i + 1];
            }
        }

        private static int withoutBit(int set, int bit) {
            int below = set & ((1 << bit) - 1);
            int above = set >> (bit + 1);
            return below | (above << bit);
        }

        int turnAhead(int a, int b) {
            if (!isBook(a) || !isBook(b) || a == b) {
                return BAD;
            }
            if (hasBit(followers[a], b)) {
                followers[a] &= ~(1 << b);
                return 0;
            }
            if (hasBit(allBehind(b), a)) {
                return NOT;
            }
            followers[a] |= 1 << b;
            return 1;
        }

        /** BOOKS of which k is AHEAD, by others in between, too. */
        private int allBehind(int k) {
            int behind = followers[k];
            // A way through others in between has fewer steps than there are BOOKS.
            for (int step = 0; step < n; step++) {
                for (int i = 0; i < n; i++) {
                    if (hasBit(behind, i)) {
                        behind |= followers[i];
                    }
                }
            }
            return behind;
        }

        int leaders(int k) {
            int found = 0;
            for (int i = 0; i < n; i++) {
                if (hasBit(followers[i], k)) {
                    found |= 1 << i;
                }
            }
            return found;
        }

        int changePrior(int set) {
            if (set < 0 || set > ALL_WORDS) {
                return BAD;
            }
            int was = prior;
            if (was == set) {
                return NOT;
            }
            prior = set;
            return was;
        }

        int changeRules(int what, int v) {
            switch (what) {
                case 0: return changeSpan(v);
                case 1: return changeBound(v);
                case 2: return changeRule(v);
                default: return BAD;
            }
        }

        private int changeSpan(int v) {
            if (v < 1 || v > 4) {
                return BAD;
            }
            int was = span;
            span = v;
            return was == v ? NOT : was;
        }

        private int changeBound(int v) {
            if (v < 0 || v > WORDS) {
                return BAD;
            }
            int was = bound;
            bound = v;
            return was == v ? NOT : was;
        }

        private int changeRule(int v) {
            if (v < 0 || v >= RULES) {
                return BAD;
            }
            int was = rule;
            rule = v;
            return was == v ? NOT : was;
        }

        int moveBook(int p, int q) {
            if (!isBook(p) || !isBook(q)) {
                return BAD;
            }
            if (p == q) {
                return NOT;
            }
            int moved = order[p];
            for (int i = p; i < q; i++) {
                order[i] = order[i + 1];
            }
            for (int i = p; i > q; i--) {
                order[i] = order[i - 1];
            }
            order[q] = moved;
            return moved;
        }

        int changeOrder(int[] row) {
            int number = number(row);
            if (number == number(order)) {
                return NOT;
            }
            System.arraycopy(row, 0, order, 0, BOOKS);
            return number;
        }

        int number(int[] row) {
            int number = 0;
            for (int p = 0; p < n; p++) {
                number = number * 10 + row[p];
            }
            return number;
        }

        int placeOf(int k) {
            for (int p = 0; p < n; p++) {
                if (order[p] == k) {
                    return p;
                }
            }
            return NONE;
        }

        int wordsThatCount(int k) {
            return isBook(k) ? sets[k] & ~prior : 0;
        }

        boolean holds() {
            int left = (1 << n) - 1;
            for (int p = 0; p < n; p++) {
                if ((leaders(order[p]) & left) != 0) {
                    return false;
                }
                left &= ~(1 << order[p]);
            }
            return true;
        }
    }

    /** The STATES ahead of the latest changes, the latest one last. */
    private static final class Past {
        private final State[] states = new State[KNOWN];
        int size;

        Past() {
            for (int i = 0; i < KNOWN; i++) {
                states[i] = new State();
            }
        }

        void keep(State state) {
            if (size >= KNOWN) {
                loseOldest();
            }
            states[size].takeFrom(state);
            size++;
        }

        private void loseOldest() {
            State oldest = states[0];
            for (int i = 0; i + 1 < KNOWN; i++) {
                states[i] = states[i + 1];
            }
            states[KNOWN - 1] = oldest;
            size = KNOWN - 1;
        }

        boolean bringBack(State state) {
            if (size <= 0) {
                return false;
            }
            size--;
            state.takeFrom(states[size]);
            return true;
        }

        void takeFrom(Past other) {
            for (int i = 0; i < KNOWN; i++) {
                states[i].takeFrom(other.states[i]);
            }
            size = other.size;
        }
    }

    /**
     * WORDS read PLACE by PLACE, as sets, all WORDS of a PLACE at once. What is known ahead of a PLACE stays,
     * so that another BOOK may be read there instead.
     */
    private static final class Reading {
        private final int[] lasts = new int[MOST_STRENGTH + 1];
        // Ahead of each PLACE: WORDS whose STRENGTH has the bit 1, 2, 4. At 7 PLACES none is above 7.
        private final int[] ones = new int[BOOKS + 1];
        private final int[] twos = new int[BOOKS + 1];
        private final int[] fours = new int[BOOKS + 1];
        // Ahead of each PLACE: WORDS that are LOST at a PLACE to come, if they are not met until then.
        private final int[][] due = new int[BOOKS + 1][BOOKS];
        private int places;
        final int[] fresh = new int[BOOKS];
        final int[] again = new int[BOOKS];
        final int[] lost = new int[BOOKS];

        void begin(State state) {
            places = state.n;
            for (int m = 1; m <= MOST_STRENGTH; m++) {
                lasts[m] = state.span * factor(state.rule, m);
            }
        }

        private static int factor(int rule, int m) {
            switch (rule) {
                case GROWING: return m;
                case DOUBLING: return 1 << (m - 1);
                default: return 1;
            }
        }

        void readOrder(State state) {
            begin(state);
            for (int p = 0; p < places; p++) {
                step(p, state.wordsThatCount(state.order[p]));
            }
        }

        /** Reads a set of WORDS at a PLACE, those ahead of it having been read. */
        void step(int p, int set) {
            if (p < 0 || p >= places || p >= BOOKS) {
                return;
            }
            int known = knownAhead(p);
            fresh[p] = set & ~known;
            again[p] = set & known;
            int carry = set & ones[p];
            int one = ones[p] ^ set;
            int two = twos[p] ^ carry;
            int four = fours[p] ^ (carry & twos[p]);
            for (int q = p; q < places; q++) {
                due[p + 1][q] = due[p][q] & ~set;
            }
            // By all rules a STRENGTH more never lasts less.
            for (int m = 1; m <= p + 1 && p + lasts[m] < places; m++) {
                due[p + 1][p + lasts[m]] |= set & ofStrength(m, one, two, four);
            }
            lost[p] = due[p + 1][p];
            ones[p + 1] = one & ~lost[p];
            twos[p + 1] = two & ~lost[p];
            fours[p + 1] = four & ~lost[p];
        }

        private static int ofStrength(int m, int one, int two, int four) {
            return ((m & 1) != 0 ? one : ~one) & ((m & 2) != 0 ? two : ~two) & ((m & 4) != 0 ? four : ~four);
        }

        int knownAhead(int p) {
            return p < 0 || p > BOOKS ? 0 : ones[p] | twos[p] | fours[p];
        }

        int strengthBehindAll(int w) {
            int one = (ones[places] >> w) & 1;
            int two = (twos[places] >> w) & 1;
            int four = (fours[places] >> w) & 1;
            return one + 2 * two + 4 * four;
        }

        boolean keepsWordMetAt(int met) {
            for (int p = 0; p < places; p++) {
                step(p, (met >> p) & 1);
            }
            return knownAhead(places) != 0;
        }

        int peak() {
            int peak = 0;
            for (int p = 0; p < places; p++) {
                peak = Math.max(peak, Integer.bitCount(fresh[p]));
            }
            return peak;
        }

        int loss() {
            int loss = 0;
            for (int p = 0; p < places; p++) {
                loss += Integer.bitCount(lost[p]);
            }
            return loss;
        }
    }

    /**
     * ORDERS gone through, the least number first, by their first BOOKS: what a first part brings,
     * all ORDERS that begin so bring, too, so that many are left out at once.
     */
    private static final class Search {
        private final Reading reading = new Reading();
        private final int[] sets = new int[BOOKS];
        private final int[] leaders = new int[BOOKS];
        private final int[] fewestFresh = new int[BOOKS];
        private final int[] mostFresh = new int[BOOKS];
        private final int[] row = new int[BOOKS];
        private int n;
        private boolean onlyBetter;
        /** It ends, when more than so many are found. */
        int wanted;
        int count;
        /** The last one found. */
        final int[] found = new int[BOOKS];
        int peak;
        int loss;

        /** For all ORDERS that HOLD. */
        void prepare(State state) {
            reading.begin(state);
            n = state.n;
            for (int k = 0; k < n; k++) {
                sets[k] = state.wordsThatCount(k);
                leaders[k] = state.leaders(k);
            }
            limitFresh(WORDS);
            onlyBetter = false;
            wanted = ALL_ORDERS;
            count = 0;
            peak = 0;
            loss = 0;
        }

        void forgetLeaders() {
            for (int k = 0; k < n; k++) {
                leaders[k] = 0;
            }
        }

        void limitFresh(int most) {
            for (int p = 0; p < n; p++) {
                fewestFresh[p] = 0;
                mostFresh[p] = most;
            }
        }

        void wantFresh(int p, int many) {
            if (p >= 0 && p < BOOKS) {
                fewestFresh[p] = many;
                mostFresh[p] = many;
            }
        }

        void seek() {
            goThrough(this, 0, (1 << n) - 1, 0, 0);
        }

        void seekLeast() {
            onlyBetter = true;
            seek();
        }

        private static void goThrough(Search s, int p, int left, int peak, int loss) {
            if (p >= s.n || p >= BOOKS) {
                s.keepFound(peak, loss);
                return;
            }
            for (int k = 0; k < s.n && s.count <= s.wanted; k++) {
                if (!s.mayCome(k, left)) {
                    continue;
                }
                s.reading.step(p, s.sets[k]);
                int fresh = Integer.bitCount(s.reading.fresh[p]);
                int nextPeak = Math.max(peak, fresh);
                int nextLoss = loss + Integer.bitCount(s.reading.lost[p]);
                if (fresh >= s.fewestFresh[p] && fresh <= s.mostFresh[p] && s.isWanted(nextPeak, nextLoss)) {
                    s.row[p] = k;
                    goThrough(s, p + 1, left & ~(1 << k), nextPeak, nextLoss);
                }
            }
        }

        private boolean mayCome(int k, int left) {
            return hasBit(left, k) && (leaders[k] & left) == 0;
        }

        private boolean isWanted(int nextPeak, int nextLoss) {
            return !onlyBetter || count == 0 || nextPeak < peak || nextPeak == peak && nextLoss < loss;
        }

        private void keepFound(int itsPeak, int itsLoss) {
            count++;
            peak = itsPeak;
            loss = itsLoss;
            System.arraycopy(row, 0, found, 0, BOOKS);
        }

        /** GROWN is the one that is found. */
        void grow() {
            int left = (1 << n) - 1;
            for (int p = 0; p < n; p++) {
                int k = nextGrown(p, left);
                if (k < 0) {
                    return;
                }
                reading.step(p, sets[k]);
                found[p] = k;
                left &= ~(1 << k);
            }
            peak = reading.peak();
            loss = reading.loss();
        }

        private int nextGrown(int p, int left) {
            int known = reading.knownAhead(p);
            int next = NONE;
            int fewest = 0;
            int most = 0;
            for (int k = 0; k < n; k++) {
                int fresh = Integer.bitCount(sets[k] & ~known);
                int again = Integer.bitCount(sets[k] & known);
                boolean better = next < 0 || fresh < fewest || fresh == fewest && again > most;
                if (better && mayCome(k, left)) {
                    next = k;
                    fewest = fresh;
                    most = again;
                }
            }
            return next;
        }
    }

    /** A row of letters up to a limit. */
    private static final class Letters {
        private final char[] row;
        int size;

        Letters(int limit) {
            row = new char[limit < 0 ? 0 : limit];
        }

        boolean add(char letter) {
            if (size >= row.length) {
                return false;
            }
            row[size] = letter;
            size++;
            return true;
        }

        /** A number of two figures at most. */
        void addNumber(int number) {
            if (number >= 10) {
                add((char) ('0' + number / 10 % 10));
            }
            add((char) ('0' + number % 10));
        }

        char at(int k) {
            return k >= 0 && k < size ? row[k] : 0;
        }
    }

    /** Takes a TEXT from THE TAPE to a draft; stays at the FAULT. */
    private static final class Parser {
        final Letters tape = new Letters(TAPE);
        final State draft = new State();
        int at;

        /** What a TEXT does not tell is as in a state that stands. */
        boolean parses(State standing) {
            draft.takeFrom(standing);
            draft.n = 0;
            at = 0;
            boolean hasBooks = takesRule() && takesSpan() && takesSign(':') && takesBooks();
            return hasBooks && (isAtEnd() || takesSign(';') && takesPairs());
        }

        /** The first letter behind blanks. */
        private char next() {
            while (at < tape.size && tape.at(at) == ' ') {
                at++;
            }
            return tape.at(at);
        }

        private boolean isAtEnd() {
            next();
            return at >= tape.size;
        }

        private boolean takesSign(char sign) {
            if (next() != sign) {
                return false;
            }
            at++;
            return true;
        }

        /** The next figure, which stays; NONE, if there is none. */
        private int nextFigure() {
            char letter = next();
            return letter >= '0' && letter <= '9' ? letter - '0' : NONE;
        }

        private boolean takesRule() {
            next();
            int start = at;
            while (at < tape.size && tape.at(at) >= 'a' && tape.at(at) <= 'z') {
                at++;
            }
            for (int rule = 0; rule < RULES; rule++) {
                if (isName(nameOf(rule), start, at)) {
                    draft.rule = rule;
                    return true;
                }
            }
            at = start;
            return false;
        }

        private static String nameOf(int rule) {
            switch (rule) {
                case STEADY: return STEADY_NAME;
                case GROWING: return GROWING_NAME;
                default: return DOUBLING_NAME;
            }
        }

        private boolean isName(String name, int start, int end) {
            if (end - start != name.length()) {
                return false;
            }
            for (int i = 0; i < name.length(); i++) {
                if (tape.at(start + i) != name.charAt(i)) {
                    return false;
                }
            }
            return true;
        }

        private boolean takesSpan() {
            int figure = nextFigure();
            if (figure < 1 || figure > 4) {
                return false;
            }
            draft.span = figure;
            at++;
            return true;
        }

        private boolean takesBooks() {
            for (int k = 0; k < BOOKS; k++) {
                if (!takesBook()) {
                    return false;
                }
                if (!takesSign(',')) {
                    return true;
                }
            }
            // Whatever stands behind the comma, there is no 8th BOOK.
            next();
            return false;
        }

        private boolean takesBook() {
            next();
            int set = 0;
            while (at < tape.size && tape.at(at) >= 'a' && tape.at(at) < 'a' + WORDS) {
                set |= 1 << (tape.at(at) - 'a');
                at++;
            }
            return draft.addBook(set) >= 0;
        }

        private boolean takesPairs() {
            // Each pair has letters of its own on the tape.
            for (int i = 0; i < TAPE; i++) {
                if (!takesPair()) {
                    return false;
                }
                if (isAtEnd()) {
                    return true;
                }
                if (!takesSign(',')) {
                    return false;
                }
            }
            return false;
        }

        private boolean takesPair() {
            int a = nextFigure();
            if (!draft.isBook(a)) {
                return false;
            }
            at++;
            int b = nextFigure();
            if (!draft.isBook(b) || hasBit(draft.followers[a], b) || draft.turnAhead(a, b) < 0) {
                return false;
            }
            at++;
            return true;
        }
    }

    /** A row of a LANE, or nothing. */
    private static final class Sheet {
        final long[] items = new long[ITEMS];
        int lane = NOTHING;
        int size;

        void renew(int itsLane, int itsSize) {
            for (int i = 0; i < ITEMS; i++) {
                items[i] = 0;
            }
            lane = itsLane;
            size = itsSize;
        }

        /** Whether n items are there from i on; of none i may be behind the last one. */
        boolean has(int i, int n) {
            return n >= 0 && i >= 0 && i <= size - n;
        }

        void put(int i, long v) {
            if (i >= 0 && i < size && i < ITEMS) {
                items[i] = cut(v);
            }
        }

        private long cut(long v) {
            switch (lane) {
                case 0: return (byte) v;
                case 1: return (short) v;
                case 2: return (int) v;
                default: return v;
            }
        }
    }
}
