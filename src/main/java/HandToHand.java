/**
 * Hands along a bench on which coats go from hand to hand: what a text tells, the bench tick by tick,
 * runs, settling, orders of hands, parts of the bench, and paces read from sheets.
 */
public final class HandToHand {
    public static final int BAD = -1, STATE = -2, FULL = -3, NONE = -4;

    private static final int MOST_PIECES = 8, MOST_HANDS = 5, ALL_SORTS = 3, MOST_ROW = 6;
    private static final int MOST_UNITS = 6, MOST_PACE = 9, MOST_WALK = 5, MOST_LEARN = 99;
    private static final int MOST_COATS = 120, MOST_TICKS = 9999, MOST_ORDERS = 120;
    private static final int TAPE_BYTES = 400, FEED_BYTES = 8;
    private static final int ALL_IMAGES = 2, ALL_SHEETS = 4, ALL_LANES = 3, MOST_CELLS = 40;

    // Far above what any run needs: a run of 120 coats has fewer than 10,000 steps.
    private static final int FAR_ABOVE = 1000000;

    private static final int RULE_BACK = 0, RULE_ZONE = 1, RULE_FIXED = 2;

    private static final int READY = 0, WALKS = 1, STANDS = 2, WORKS = 3;

    // What the machine would find, were a sheet a row of Java's.
    private static final int FAULT_NULL = 1, FAULT_INDEX = 2, FAULT_CAST = 3, FAULT_SIZE = 4;

    // Answers that tell a fault are this less the fault, or less its place.
    private static final int FAULT_BASE = -10, BAD_PACE_BASE = -20;

    private final Told told = new Told();
    private final Told variant = new Told();
    private final Reader reader = new Reader();
    private final Bench bench = new Bench(told, null);
    private final Bench[] images = new Bench[ALL_IMAGES];
    private final boolean[] kept = new boolean[ALL_IMAGES];
    private final Course course = new Course(told);
    private final Settling settling = new Settling(variant);
    private final Ring ring = new Ring();
    private final Ring variantRing = new Ring();
    private final Orders orders = new Orders();
    private final Parts bestParts = new Parts();
    private final Sheet[] sheets = new Sheet[ALL_SHEETS];
    private int latestTorn;

    public HandToHand() {
        told.tellAsAtFirst();
        for (int i = 0; i < ALL_IMAGES; i++) {
            images[i] = new Bench(told, null);
        }
        for (int k = 0; k < ALL_SHEETS; k++) {
            sheets[k] = new Sheet();
        }
        bench.clear();
        bench.doAll();
    }

    // ---- the text

    public int feed(long v) {
        if (reader.length > TAPE_BYTES - FEED_BYTES) {
            return FULL;
        }
        for (int i = 0; i < FEED_BYTES; i++) {
            reader.tape[reader.length] = (byte) (v >> (8 * (FEED_BYTES - 1 - i)));
            reader.length++;
        }
        return reader.length;
    }

    public int end(int n) {
        if (n < 0 || n > reader.length) {
            return BAD;
        }
        int had = reader.length;
        reader.length = n;
        return had;
    }

    public int text() {
        boolean taken = reader.readAll();
        reader.length = 0;
        if (!taken) {
            return FAULT_BASE - reader.faultPlace;
        }
        told.copyFrom(reader.draft);
        bench.clear();
        bench.doAll();
        for (int i = 0; i < ALL_IMAGES; i++) {
            kept[i] = false;
        }
        forgetAnswers();
        return reader.lines;
    }

    public int fault() {
        return reader.fault;
    }

    public int rule(int what) {
        if (what >= 10 && what < 10 + told.rowLength) {
            return told.row[what - 10];
        }
        if (what >= 20 && what < 20 + told.hands) {
            return told.ends[what - 20];
        }
        switch (what) {
            case 0: return told.pieces;
            case 1: return told.hands;
            case 2: return told.walk;
            case 3: return told.learn;
            case 4: return told.kind;
            case 5: return told.whole;
            case 6: return told.rowLength;
            default: return BAD;
        }
    }

    public int units(int sort, int piece) {
        if (sort < 0 || sort >= ALL_SORTS || !isPiece(piece)) {
            return BAD;
        }
        return told.unitsOf(sort, piece);
    }

    public int pace(int hand, int piece) {
        if (!isHand(hand) || !isPiece(piece)) {
            return BAD;
        }
        return told.paceOf(hand, piece);
    }

    public int setPace(int hand, int piece, int v) {
        if (!isHand(hand) || !isPiece(piece) || !isPace(v)) {
            return BAD;
        }
        int was = told.paceOf(hand, piece);
        told.paces[hand * MOST_PIECES + piece] = v;
        forgetAnswers();
        return was;
    }

    // ---- the bench, as it goes

    public int begin() {
        int done = bench.done;
        bench.clear();
        bench.doAll();
        return done;
    }

    public int go(int t) {
        if (t < 1 || t > MOST_TICKS) {
            return BAD;
        }
        int before = bench.done;
        int rest = t;
        for (int i = 0; i < t && rest > 0; i++) {
            int least = bench.leastLeft();
            int step = least == 0 || least > rest ? rest : least;
            bench.letPass(step);
            bench.doAll();
            rest -= step;
        }
        return bench.done - before;
    }

    public int night() {
        int lay = bench.coatsInHand();
        bench.makeReady();
        bench.doAll();
        return lay;
    }

    public int now(int what) {
        switch (what) {
            case 0: return bench.tick;
            case 1: return bench.done;
            case 2: return bench.handings;
            case 3: return bench.leastLeft() == 0 ? 1 : 0;
            case 4: return bench.place;
            default: return BAD;
        }
    }

    public int hand(int h, int what) {
        if (!isHand(h)) {
            return BAD;
        }
        boolean coat = bench.piece[h] >= 0;
        switch (what) {
            case 0: return bench.doing[h];
            case 1: return bench.left[h];
            case 2: return coat ? bench.piece[h] : NONE;
            case 3: return coat ? bench.unit[h] : NONE;
            case 4: return coat ? bench.sort[h] : NONE;
            case 5: return bench.waited[h];
            default: return BAD;
        }
    }

    public int learnt(int h, int piece) {
        if (!isHand(h) || !isPiece(piece)) {
            return BAD;
        }
        return bench.learned[h * MOST_PIECES + piece];
    }

    public int takes(int h, int piece) {
        if (!isHand(h) || !isPiece(piece)) {
            return BAD;
        }
        return told.ticksOf(h, piece, bench.learned[h * MOST_PIECES + piece]);
    }

    public int keep(int i) {
        if (i < 0 || i >= ALL_IMAGES) {
            return BAD;
        }
        boolean was = kept[i];
        images[i].copyFrom(bench);
        kept[i] = true;
        return was ? 1 : 0;
    }

    public int back(int i) {
        if (i < 0 || i >= ALL_IMAGES) {
            return BAD;
        }
        if (!kept[i]) {
            return STATE;
        }
        bench.copyFrom(images[i]);
        return bench.tick;
    }

    // ---- runs

    public int run(int m, int what) {
        if (!isRun(m) || what < 0 || what > 5) {
            return BAD;
        }
        course.runFor(m);
        switch (what) {
            case 0: return course.bench.tick;
            case 1: return course.bench.done;
            case 2: return course.bench.handings;
            case 3: return course.stuck ? 1 : 0;
            case 4: return course.bench.waitedByAll();
            default: return course.bench.mostStoodAt();
        }
    }

    public int waits(int m, int hand) {
        if (!isRun(m) || !isHand(hand)) {
            return BAD;
        }
        course.runFor(m);
        return course.bench.waited[hand];
    }

    public int over(int m, int k, int what) {
        if (!isRun(m) || what < 0 || what >= Handings.FIELDS) {
            return BAD;
        }
        course.runFor(m);
        if (k < 0 || k >= course.handings.size) {
            return BAD;
        }
        return course.handings.valueOf(k, what);
    }

    public int judge(int k, int tick, int who, int piece, int unit) {
        course.runFor(MOST_COATS);
        Handings made = course.handings;
        if (k < 0 || k >= made.size) {
            return BAD;
        }
        if (made.valueOf(k, Handings.TICK) != tick) {
            return 1;
        }
        if (made.valueOf(k, Handings.WHO) != who) {
            return 2;
        }
        if (made.valueOf(k, Handings.PIECE) != piece) {
            return 3;
        }
        return made.valueOf(k, Handings.UNIT) != unit ? 4 : 0;
    }

    // ---- settling

    public int settles(int what) {
        if (what < 0 || what > 2) {
            return BAD;
        }
        findRing();
        if (!ring.found) {
            return NONE;
        }
        return what == 0 ? ring.ahead : what == 1 ? ring.coats : ring.ticks;
    }

    public int where(int hand, int what) {
        if (hand < 1 || hand >= told.hands || what < 0 || what > 3) {
            return BAD;
        }
        findRing();
        if (!ring.found) {
            return NONE;
        }
        course.runFor(MOST_COATS);
        return course.handings.placesOf(hand, ring, what);
    }

    public int makes(int what) {
        if (!isHalf(what)) {
            return BAD;
        }
        findRing();
        return what == 0 ? ring.top : ring.bottom;
    }

    public long could(int what) {
        if (!isHalf(what)) {
            return BAD;
        }
        long top = 0;
        long bottom = 1;
        for (int h = 0; h < told.hands; h++) {
            long alone = told.ticksAlone(h);
            if (alone > 0) {
                top = top * alone + told.rowLength * bottom;
                bottom = bottom * alone;
                long common = commonDivisor(top, bottom);
                top = common > 0 ? top / common : top;
                bottom = common > 0 ? bottom / common : bottom;
            }
        }
        return what == 0 ? top : bottom;
    }

    // ---- orders, parts

    public int order(int q, int what) {
        if (!isOrder(q) || !isHalf(what)) {
            return BAD;
        }
        findOrder(q);
        return what == 0 ? orders.tops[q] : orders.bottoms[q];
    }

    public int best(int what) {
        if (what < 0 || what > 3) {
            return BAD;
        }
        int most = 0;
        int ringless = 0;
        int all = numberOfOrders(told.hands);
        for (int q = 0; q < all; q++) {
            findOrder(q);
            if (orders.tops[q] == 0) {
                ringless++;
            }
            if (isMore(orders.tops[q], orders.bottoms[q], orders.tops[most], orders.bottoms[most])) {
                most = q;
            }
        }
        switch (what) {
            case 0: return most;
            case 1: return orders.tops[most];
            case 2: return orders.bottoms[most];
            default: return ringless;
        }
    }

    public int stands(int q, int i) {
        if (!isOrder(q) || !isHand(i)) {
            return BAD;
        }
        orders.standAs(q, told.hands);
        return orders.standing[i];
    }

    public int parts(int what) {
        boolean asksEnd = what >= 10 && what < 10 + told.hands - 1;
        if (!isHalf(what) && !asksEnd) {
            return BAD;
        }
        if (told.pieces < told.hands) {
            return NONE;
        }
        findParts();
        if (asksEnd) {
            return bestParts.ends[what - 10];
        }
        return what == 0 ? bestParts.top : bestParts.bottom;
    }

    public int less(int hand, int what) {
        if (!isHand(hand) || !isHalf(what)) {
            return BAD;
        }
        if (told.hands == 1) {
            return STATE;
        }
        variant.copyFrom(told);
        variant.dropHand(hand);
        settling.settle(variant, variantRing);
        return what == 0 ? variantRing.top : variantRing.bottom;
    }

    // ---- sheets

    public int sheet(int k, int lane, int n) {
        if (!isSheet(k) || !isLane(lane) || n > MOST_CELLS) {
            return BAD;
        }
        if (n < 0) {
            return FAULT_BASE - FAULT_SIZE;
        }
        sheets[k].makeNew(lane, n);
        return 1;
    }

    public int lay(int k, int i, int v) {
        if (!isSheet(k)) {
            return BAD;
        }
        Sheet sheet = sheets[k];
        if (sheet.lane == Sheet.NOTHING) {
            return FAULT_BASE - FAULT_NULL;
        }
        if (i < 0 || i >= sheet.size) {
            return FAULT_BASE - FAULT_INDEX;
        }
        sheet.put(i, v);
        return 1;
    }

    public int read(int k, int lane, int f, int h, int n) {
        if (!isSheet(k) || !isLane(lane) || h < 0 || n < 0 || n > MOST_HANDS || h > told.hands - n) {
            return BAD;
        }
        Sheet sheet = sheets[k];
        int found = n == 0 ? 0 : sheet.faultAs(lane);
        int whole = found != 0 ? 0 : sheet.wholeRows(f, told.pieces, n);
        if (found == 0 && whole < n) {
            found = FAULT_INDEX;
        }
        for (int i = 0; i < whole; i++) {
            if (!hasPacesAlone(sheet, f + i * told.pieces)) {
                return BAD_PACE_BASE - i;
            }
        }
        for (int i = 0; i < whole; i++) {
            copyPaces(sheet, f + i * told.pieces, h + i);
        }
        latestTorn = found;
        if (whole > 0) {
            forgetAnswers();
        }
        return whole;
    }

    public int torn() {
        return latestTorn;
    }

    public int count(int what) {
        switch (what) {
            case 0: return (kept[0] ? 1 : 0) + (kept[1] ? 1 : 0);
            case 1: return reader.length;
            case 2: return sheets[0].lane == Sheet.NOTHING ? NONE : sheets[0].size;
            case 3: return numberOfOrders(told.hands);
            default: return BAD;
        }
    }

    // ---- helpers

    private boolean isPiece(int piece) {
        return piece >= 0 && piece < told.pieces;
    }

    private boolean isHand(int hand) {
        return hand >= 0 && hand < told.hands;
    }

    private boolean isOrder(int q) {
        return q >= 0 && q < numberOfOrders(told.hands);
    }

    private static boolean isPace(int v) {
        return v >= 1 && v <= MOST_PACE;
    }

    private static boolean isRun(int m) {
        return m >= 1 && m <= MOST_COATS;
    }

    private static boolean isHalf(int what) {
        return what == 0 || what == 1;
    }

    private static boolean isSheet(int k) {
        return k >= 0 && k < ALL_SHEETS;
    }

    private static boolean isLane(int lane) {
        return lane >= 0 && lane < ALL_LANES;
    }

    private static int numberOfOrders(int hands) {
        int all = 1;
        for (int i = 2; i <= hands; i++) {
            all *= i;
        }
        return all;
    }

    private static boolean isMore(long top, long bottom, long thanTop, long thanBottom) {
        return top * thanBottom > thanTop * bottom;
    }

    private static long commonDivisor(long a, long b) {
        for (int i = 0; i < FAR_ABOVE && b != 0; i++) {
            long rest = a % b;
            a = b;
            b = rest;
        }
        return a;
    }

    /** Called when what runs depend on has changed: what was found by running is found anew. */
    private void forgetAnswers() {
        course.coats = 0;
        ring.known = false;
        bestParts.known = false;
        orders.forget();
    }

    private void findRing() {
        if (!ring.known) {
            settling.settle(told, ring);
        }
    }

    private void findOrder(int q) {
        if (orders.bottoms[q] != 0) {
            return;
        }
        orders.standAs(q, told.hands);
        variant.copyFrom(told);
        for (int i = 0; i < told.hands; i++) {
            variant.copyPacesOf(told, orders.standing[i], i);
        }
        settling.settle(variant, variantRing);
        orders.tops[q] = variantRing.top;
        orders.bottoms[q] = variantRing.bottom;
    }

    private void findParts() {
        if (bestParts.known) {
            return;
        }
        bestParts.known = true;
        bestParts.top = -1;
        bestParts.bottom = 1;
        variant.copyFrom(told);
        variant.kind = RULE_FIXED;
        for (int i = 0; i < told.hands - 1; i++) {
            variant.ends[i] = i + 1;
        }
        boolean more = true;
        for (int i = 0; i < FAR_ABOVE && more; i++) {
            settling.settle(variant, variantRing);
            if (isMore(variantRing.top, variantRing.bottom, bestParts.top, bestParts.bottom)) {
                bestParts.takeFrom(variant, variantRing);
            }
            more = variant.moveEnds();
        }
    }

    private boolean hasPacesAlone(Sheet sheet, int from) {
        for (int p = 0; p < told.pieces; p++) {
            if (!isPace(sheet.cells[from + p])) {
                return false;
            }
        }
        return true;
    }

    private void copyPaces(Sheet sheet, int from, int hand) {
        for (int p = 0; p < told.pieces; p++) {
            told.paces[hand * MOST_PIECES + p] = sheet.cells[from + p];
        }
    }

    /** What a text tells. */
    private static final class Told {
        int pieces;
        int hands;
        int walk;
        int learn;
        int kind;
        int whole;
        int rowLength;
        final int[] row = new int[MOST_ROW];
        final int[] units = new int[ALL_SORTS * MOST_PIECES];
        final int[] paces = new int[MOST_HANDS * MOST_PIECES];
        // The last hand's, and by the rule "back" every hand's, is the number of pieces, so that no rule needs asking.
        final int[] ends = new int[MOST_HANDS];

        void clear() {
            pieces = 0;
            hands = 0;
            walk = 0;
            learn = 0;
            kind = RULE_BACK;
            whole = 0;
            rowLength = 1;
            row[0] = 0;
        }

        void tellAsAtFirst() {
            clear();
            pieces = 3;
            hands = 3;
            for (int p = 0; p < pieces; p++) {
                for (int s = 0; s < ALL_SORTS; s++) {
                    units[s * MOST_PIECES + p] = 2;
                }
                for (int h = 0; h < hands; h++) {
                    paces[h * MOST_PIECES + p] = 3 - h;
                }
            }
            fillEnds();
        }

        void copyFrom(Told other) {
            pieces = other.pieces;
            hands = other.hands;
            walk = other.walk;
            learn = other.learn;
            kind = other.kind;
            whole = other.whole;
            rowLength = other.rowLength;
            System.arraycopy(other.row, 0, row, 0, MOST_ROW);
            System.arraycopy(other.units, 0, units, 0, ALL_SORTS * MOST_PIECES);
            System.arraycopy(other.paces, 0, paces, 0, MOST_HANDS * MOST_PIECES);
            System.arraycopy(other.ends, 0, ends, 0, MOST_HANDS);
        }

        void copyPacesOf(Told other, int from, int to) {
            System.arraycopy(other.paces, from * MOST_PIECES, paces, to * MOST_PIECES, MOST_PIECES);
        }

        void fillEnds() {
            for (int h = 0; h < hands; h++) {
                if (kind == RULE_BACK || h == hands - 1) {
                    ends[h] = pieces;
                }
            }
        }

        void dropHand(int hand) {
            for (int h = hand; h < hands - 1; h++) {
                copyPacesOf(this, h + 1, h);
                ends[h] = ends[h + 1];
            }
            hands--;
            fillEnds();
        }

        /** Moves to the next ends, each above the one ahead and below the number of pieces; false: these were the last. */
        boolean moveEnds() {
            for (int h = hands - 2; h >= 0; h--) {
                int highest = pieces - (hands - 1 - h);
                if (ends[h] < highest) {
                    ends[h]++;
                    for (int i = h + 1; i < hands - 1; i++) {
                        ends[i] = ends[i - 1] + 1;
                    }
                    return true;
                }
            }
            return false;
        }

        int unitsOf(int sort, int piece) {
            return units[sort * MOST_PIECES + piece];
        }

        int paceOf(int hand, int piece) {
            return paces[hand * MOST_PIECES + piece];
        }

        /** The first piece from a piece on that has units of a sort; the number of pieces, if there is none. */
        int pieceFrom(int piece, int sort) {
            for (int p = piece; p < pieces; p++) {
                if (units[sort * MOST_PIECES + p] > 0) {
                    return p;
                }
            }
            return pieces;
        }

        boolean mayBegin(int hand, int piece) {
            return piece < ends[hand];
        }

        boolean mayBeLeft(int hand, int piece, int unit) {
            if (unit > 0 && (whole >> piece & 1) == 1) {
                return false;
            }
            return kind != RULE_FIXED || piece >= ends[hand];
        }

        int ticksOf(int hand, int piece, int learned) {
            int ticks = paces[hand * MOST_PIECES + piece];
            if (learn > 0) {
                ticks -= learned / learn;
            }
            return ticks < 1 ? 1 : ticks;
        }

        /** What was learnt, as far as it still makes a difference. */
        int learnedThatCounts(int hand, int piece, int learned) {
            int enough = learn * (paceOf(hand, piece) - 1);
            return learned < enough ? learned : enough;
        }

        long ticksAlone(int hand) {
            long ticks = 0;
            for (int i = 0; i < rowLength; i++) {
                for (int p = 0; p < pieces; p++) {
                    ticks += unitsOf(row[i], p) * paceOf(hand, p);
                }
            }
            return ticks;
        }
    }

    /** A bench: what hands have and do, and what they have learnt. */
    private static final class Bench {
        Told told;
        private final Handings log;
        int tick;
        int done;
        int handings;
        int place;
        final int[] doing = new int[MOST_HANDS];
        final int[] left = new int[MOST_HANDS];
        // Below 0: she has no coat; her unit and sort tell nothing then.
        final int[] piece = new int[MOST_HANDS];
        final int[] unit = new int[MOST_HANDS];
        final int[] sort = new int[MOST_HANDS];
        final int[] waited = new int[MOST_HANDS];
        final int[] learned = new int[MOST_HANDS * MOST_PIECES];
        final int[] stood = new int[MOST_PIECES];

        /** A bench by what is told; its handings over are written down in the log, if there is one. */
        Bench(Told told, Handings log) {
            this.told = told;
            this.log = log;
        }

        /** As at first, but that nothing is done yet. */
        void clear() {
            tick = 0;
            done = 0;
            handings = 0;
            for (int h = 0; h < MOST_HANDS; h++) {
                waited[h] = 0;
            }
            for (int i = 0; i < MOST_HANDS * MOST_PIECES; i++) {
                learned[i] = 0;
            }
            for (int p = 0; p < MOST_PIECES; p++) {
                stood[p] = 0;
            }
            makeReady();
        }

        void makeReady() {
            place = 0;
            for (int h = 0; h < MOST_HANDS; h++) {
                doing[h] = READY;
                left[h] = 0;
                piece[h] = -1;
            }
        }

        /** Both benches are by the same; where hands stood is asked of runs alone, and no run is copied. */
        void copyFrom(Bench other) {
            tick = other.tick;
            done = other.done;
            handings = other.handings;
            place = other.place;
            System.arraycopy(other.doing, 0, doing, 0, MOST_HANDS);
            System.arraycopy(other.left, 0, left, 0, MOST_HANDS);
            System.arraycopy(other.piece, 0, piece, 0, MOST_HANDS);
            System.arraycopy(other.unit, 0, unit, 0, MOST_HANDS);
            System.arraycopy(other.sort, 0, sort, 0, MOST_HANDS);
            System.arraycopy(other.waited, 0, waited, 0, MOST_HANDS);
            System.arraycopy(other.learned, 0, learned, 0, MOST_HANDS * MOST_PIECES);
        }

        /** Does all that is to be done at this tick. */
        void doAll() {
            boolean some = true;
            for (int i = 0; i < FAR_ABOVE && some; i++) {
                some = false;
                for (int h = told.hands - 1; h >= 0; h--) {
                    // Who has ticks left works on or walks on, whatever the others do.
                    if (left[h] == 0 && act(h)) {
                        some = true;
                    }
                }
            }
        }

        private boolean act(int h) {
            switch (doing[h]) {
                case WORKS: return finishUnit(h);
                case READY: return h == 0 ? takeNewCoat() : takeOver(h);
                case STANDS: return startUnit(h);
                default: return false;
            }
        }

        private boolean finishUnit(int h) {
            learned[h * MOST_PIECES + piece[h]]++;
            doing[h] = STANDS;
            unit[h]++;
            if (unit[h] < told.unitsOf(sort[h], piece[h])) {
                return true;
            }
            int next = told.pieceFrom(piece[h] + 1, sort[h]);
            if (next < told.pieces) {
                piece[h] = next;
                unit[h] = 0;
            } else {
                done++;
                goBack(h, told.pieces);
            }
            return true;
        }

        private boolean takeNewCoat() {
            int next = told.row[place];
            int first = told.pieceFrom(0, next);
            if (first >= told.pieces) {
                return false;
            }
            place = place + 1 < told.rowLength ? place + 1 : 0;
            doing[0] = STANDS;
            piece[0] = first;
            unit[0] = 0;
            sort[0] = next;
            return true;
        }

        private boolean takeOver(int h) {
            int ahead = h - 1;
            if (doing[ahead] != STANDS || !told.mayBeLeft(ahead, piece[ahead], unit[ahead])) {
                return false;
            }
            doing[h] = STANDS;
            piece[h] = piece[ahead];
            unit[h] = unit[ahead];
            sort[h] = sort[ahead];
            handings++;
            if (log != null) {
                log.note(tick, h, piece[h], unit[h], sort[h]);
            }
            goBack(ahead, piece[ahead]);
            return true;
        }

        /** She has no coat any more and goes back from a piece to where the one ahead of her is. */
        private void goBack(int h, int from) {
            piece[h] = -1;
            int way = 0;
            if (h > 0) {
                way = piece[h - 1] < 0 ? from : from - piece[h - 1];
            }
            left[h] = way > 0 ? told.walk * way : 0;
            doing[h] = left[h] > 0 ? WALKS : READY;
        }

        private boolean startUnit(int h) {
            if (!told.mayBegin(h, piece[h]) || isHeldBy(h, h + 1)) {
                return false;
            }
            doing[h] = WORKS;
            left[h] = told.ticksOf(h, piece[h], learned[h * MOST_PIECES + piece[h]]);
            return true;
        }

        private boolean isHeldBy(int h, int behind) {
            if (behind >= told.hands || piece[behind] < 0 || piece[behind] > piece[h]) {
                return false;
            }
            return piece[behind] < piece[h] || unit[behind] <= unit[h];
        }

        /** The least ticks that are left to any hand; 0: nobody has any, the bench is stuck. */
        int leastLeft() {
            int least = 0;
            for (int h = 0; h < told.hands; h++) {
                if (left[h] > 0 && (least == 0 || left[h] < least)) {
                    least = left[h];
                }
            }
            return least;
        }

        /** Lets ticks go by, no more than the least that are left to any hand who has some. */
        void letPass(int ticks) {
            tick += ticks;
            for (int h = 0; h < told.hands; h++) {
                if (left[h] > 0) {
                    left[h] -= ticks;
                    if (left[h] == 0 && doing[h] == WALKS) {
                        doing[h] = READY;
                    }
                } else {
                    waited[h] += ticks;
                    if (doing[h] == STANDS) {
                        stood[piece[h]] += ticks;
                    }
                }
            }
        }

        /** What a hand has and does, so that two numbers are the same if it is the same. */
        int inOneNumber(int h) {
            int coat = piece[h] < 0 ? 0 : (piece[h] + 1) * 100 + unit[h] * 10 + sort[h];
            return (coat * 100 + left[h]) * 10 + doing[h];
        }

        int coatsInHand() {
            int coats = 0;
            for (int h = 0; h < told.hands; h++) {
                coats += piece[h] >= 0 ? 1 : 0;
            }
            return coats;
        }

        int waitedByAll() {
            int ticks = 0;
            for (int h = 0; h < told.hands; h++) {
                ticks += waited[h];
            }
            return ticks;
        }

        int mostStoodAt() {
            int most = 0;
            for (int p = 1; p < told.pieces; p++) {
                if (stood[p] > stood[most]) {
                    most = p;
                }
            }
            return stood[most] > 0 ? most : NONE;
        }
    }

    /** Handings over of a run, as they came. */
    private static final class Handings {
        static final int KEPT = 600, FIELDS = 5;
        static final int TICK = 0, WHO = 1, PIECE = 2, UNIT = 3, SORT = 4;
        int size;
        private final int[] values = new int[KEPT * FIELDS];

        void note(int tick, int who, int piece, int unit, int sort) {
            if (size >= KEPT) {
                return;
            }
            int base = size * FIELDS;
            values[base + TICK] = tick;
            values[base + WHO] = who;
            values[base + PIECE] = piece;
            values[base + UNIT] = unit;
            values[base + SORT] = sort;
            size++;
        }

        int valueOf(int k, int field) {
            return values[k * FIELDS + field];
        }

        /** Where a hand takes over in a ring: how often, whether always at one place, the first piece, its unit. */
        int placesOf(int hand, Ring ring, int what) {
            int times = 0;
            int piece = NONE;
            int unit = NONE;
            boolean same = true;
            for (int k = 0; k < size; k++) {
                int tick = valueOf(k, TICK);
                if (valueOf(k, WHO) == hand && tick > ring.from && tick <= ring.from + ring.ticks) {
                    if (times == 0) {
                        piece = valueOf(k, PIECE);
                        unit = valueOf(k, UNIT);
                    }
                    same = same && valueOf(k, PIECE) == piece && valueOf(k, UNIT) == unit;
                    times++;
                }
            }
            switch (what) {
                case 0: return times;
                case 1: return same && times > 0 ? 1 : 0;
                case 2: return piece;
                default: return unit;
            }
        }
    }

    /** A run of some coats, kept till another one is asked for. */
    private static final class Course {
        final Handings handings = new Handings();
        final Bench bench;
        // How many coats the run that is kept was asked for; 0: none is kept.
        int coats;
        boolean stuck;

        Course(Told told) {
            bench = new Bench(told, handings);
        }

        void runFor(int m) {
            if (coats == m) {
                return;
            }
            coats = m;
            stuck = false;
            handings.size = 0;
            bench.clear();
            bench.doAll();
            for (int i = 0; i < FAR_ABOVE && bench.done < m && !stuck; i++) {
                int least = bench.leastLeft();
                if (least == 0) {
                    stuck = true;
                } else {
                    bench.letPass(least);
                    bench.doAll();
                }
            }
        }
    }

    /** A ring that a run comes to, if it does. */
    private static final class Ring {
        boolean known;
        boolean found;
        int ahead;
        int coats;
        int ticks;
        int from;
        int top;
        int bottom;

        void lose() {
            known = true;
            found = false;
            top = 0;
            bottom = 1;
        }

        void close(int doneBefore, int tickBefore, int doneNow, int tickNow) {
            found = true;
            ahead = doneBefore;
            from = tickBefore;
            coats = doneNow - doneBefore;
            ticks = tickNow - tickBefore;
            int common = (int) commonDivisor(coats, ticks);
            top = common > 0 ? coats / common : coats;
            bottom = common > 0 ? ticks / common : ticks;
        }
    }

    /** Looks for the ring of a run by keeping what the bench was like each time that coats became done. */
    private static final class Settling {
        private static final int WIDTH = 1 + MOST_HANDS + MOST_HANDS * MOST_PIECES;
        private final Bench bench;
        private int records;
        private final int[] rows = new int[MOST_COATS * WIDTH];
        private final int[] dones = new int[MOST_COATS];
        private final int[] ticks = new int[MOST_COATS];

        Settling(Told told) {
            bench = new Bench(told, null);
        }

        void settle(Told told, Ring ring) {
            ring.lose();
            records = 0;
            bench.told = told;
            bench.clear();
            bench.doAll();
            int least = bench.leastLeft();
            for (int i = 0; i < FAR_ABOVE && least > 0 && bench.done < MOST_COATS && !ring.found; i++) {
                int before = bench.done;
                bench.letPass(least);
                bench.doAll();
                if (bench.done > before && records < MOST_COATS) {
                    writeDown(told);
                    int same = earlierAlike();
                    if (same >= 0) {
                        ring.close(dones[same], ticks[same], bench.done, bench.tick);
                    }
                    records++;
                }
                least = bench.leastLeft();
            }
        }

        private void writeDown(Told told) {
            int base = records * WIDTH;
            dones[records] = bench.done;
            ticks[records] = bench.tick;
            rows[base] = bench.place;
            for (int h = 0; h < told.hands; h++) {
                rows[base + 1 + h] = bench.inOneNumber(h);
                for (int p = 0; p < told.pieces; p++) {
                    int i = h * MOST_PIECES + p;
                    rows[base + 1 + MOST_HANDS + i] = told.learnedThatCounts(h, p, bench.learned[i]);
                }
            }
            clearOthers(base, told);
        }

        /** What is no hand's or no piece's is left over from another bench and must not tell records apart. */
        private void clearOthers(int base, Told told) {
            for (int h = 0; h < MOST_HANDS; h++) {
                if (h >= told.hands) {
                    rows[base + 1 + h] = 0;
                }
                for (int p = 0; p < MOST_PIECES; p++) {
                    if (h >= told.hands || p >= told.pieces) {
                        rows[base + 1 + MOST_HANDS + h * MOST_PIECES + p] = 0;
                    }
                }
            }
        }

        private int earlierAlike() {
            int base = records * WIDTH;
            for (int r = 0; r < records; r++) {
                int i = 0;
                while (i < WIDTH && rows[r * WIDTH + i] == rows[base + i]) {
                    i++;
                }
                if (i == WIDTH) {
                    return r;
                }
            }
            return -1;
        }
    }

    /** What orders of hands make, as far as it was asked for. */
    private static final class Orders {
        final int[] tops = new int[MOST_ORDERS];
        // 0: not asked for yet.
        final int[] bottoms = new int[MOST_ORDERS];
        final int[] standing = new int[MOST_HANDS];

        void forget() {
            for (int q = 0; q < MOST_ORDERS; q++) {
                bottoms[q] = 0;
            }
        }

        /** Fills in who stands at each place in an order. */
        void standAs(int q, int hands) {
            int rest = q;
            int used = 0;
            int below = numberOfOrders(hands);
            for (int i = 0; i < hands; i++) {
                below = below / (hands - i);
                int skip = below > 0 ? rest / below : 0;
                rest = below > 0 ? rest % below : 0;
                int who = unusedHand(used, skip, hands);
                standing[i] = who;
                used |= 1 << who;
            }
        }

        private int unusedHand(int used, int skip, int hands) {
            int seen = 0;
            for (int h = 0; h < hands; h++) {
                if ((used >> h & 1) == 0) {
                    if (seen == skip) {
                        return h;
                    }
                    seen++;
                }
            }
            return 0;
        }
    }

    /** The best ends for hands whose parts are fixed. */
    private static final class Parts {
        boolean known;
        int top;
        int bottom;
        final int[] ends = new int[MOST_HANDS];

        void takeFrom(Told told, Ring ring) {
            top = ring.top;
            bottom = ring.bottom;
            System.arraycopy(told.ends, 0, ends, 0, MOST_HANDS);
        }
    }

    /** A sheet: a row of cells of a lane, or nothing. */
    private static final class Sheet {
        static final int NOTHING = -1;
        private static final int BYTES = 0, SHORTS = 1;
        int lane = NOTHING;
        int size;
        final int[] cells = new int[MOST_CELLS];

        void makeNew(int newLane, int n) {
            lane = newLane;
            size = n;
            for (int i = 0; i < MOST_CELLS; i++) {
                cells[i] = 0;
            }
        }

        void put(int i, int v) {
            cells[i] = lane == BYTES ? (byte) v : lane == SHORTS ? (short) v : v;
        }

        /** The fault of taking it as of a lane: nothing is of every lane, but can not be read. */
        int faultAs(int asked) {
            if (lane == NOTHING) {
                return FAULT_NULL;
            }
            return lane != asked ? FAULT_CAST : 0;
        }

        /** How many rows of cells, at most n, are whole from a cell on. */
        int wholeRows(int from, int length, int n) {
            if (from < 0 || from >= size || length < 1) {
                return 0;
            }
            int rows = (size - from) / length;
            return rows < n ? rows : n;
        }
    }

    /** The tape, and what reads it, token by token, into a draft, up to its first fault. */
    private static final class Reader {
        private static final int AT_END = 0, NAME = 1, NUMBER = 2, SIGN = 3;
        private static final int NO_NAME = -1, PIECE = 0, WHOLE = 1, SORT = 2, ROW = 3, HAND = 4;
        private static final int WALK = 5, LEARN = 6, BACK = 7, ZONE = 8, FIXED = 9, ALL_NAMES = 10;
        private static final int NO_TOKEN = 1, NOT_THERE = 2, OUT_OF_BOUNDS = 3, SECOND_TIME = 4;
        private static final int TOO_MANY = 5, TOO_FEW = 6, NO_UNITS = 7;

        final Told draft = new Told();
        int fault;
        int faultPlace;
        int lines;
        final byte[] tape = new byte[TAPE_BYTES];
        int length;
        private int next;
        private int kind;
        private int start;
        private int value;
        // Bits: names of lines that may come once and have come; sorts that have.
        private int names;
        private int sorts;
        private boolean piecesClosed;
        private boolean handsClosed;

        boolean readAll() {
            next = 0;
            lines = 0;
            fault = 0;
            faultPlace = 0;
            names = 0;
            sorts = 0;
            piecesClosed = false;
            handsClosed = false;
            draft.clear();
            boolean more = true;
            for (int i = 0; i <= TAPE_BYTES && more; i++) {
                more = readToken() && kind != AT_END && readLine();
            }
            return fault == 0 && isComplete();
        }

        private boolean refuse(int which, int at) {
            fault = which;
            faultPlace = at;
            return false;
        }

        private boolean isComplete() {
            if (draft.pieces == 0 || draft.hands == 0) {
                return refuse(TOO_FEW, length);
            }
            for (int s = 0; s < ALL_SORTS; s++) {
                if ((sorts >> s & 1) == 0 && s > 0) {
                    System.arraycopy(draft.units, 0, draft.units, s * MOST_PIECES, MOST_PIECES);
                }
                if (draft.pieceFrom(0, s) == draft.pieces) {
                    return refuse(NO_UNITS, length);
                }
            }
            draft.fillEnds();
            return true;
        }

        // ---- lines

        private boolean readLine() {
            if (kind != NAME) {
                return refuse(NOT_THERE, start);
            }
            lines++;
            switch (value) {
                case PIECE: return readPiece();
                case WHOLE: return readWhole();
                case SORT: return readSort();
                case HAND: return readHand();
                case ROW: return readOnce(ROW) && readRow();
                case WALK: return readOnce(WALK) && readWalk();
                case LEARN: return readOnce(LEARN) && readLearn();
                case BACK: return readOnce(BACK) && readSign();
                case ZONE: return readOnce(BACK) && readEnds(RULE_ZONE);
                case FIXED: return readOnce(BACK) && readEnds(RULE_FIXED);
                default: return refuse(NO_TOKEN, start);
            }
        }

        /** Notes that the line of a name has come (all rules share one), and refuses it the second time. */
        private boolean readOnce(int name) {
            if ((names >> name & 1) == 1) {
                return refuse(SECOND_TIME, start);
            }
            names |= 1 << name;
            return true;
        }

        private boolean readPiece() {
            if (piecesClosed || draft.pieces >= MOST_PIECES) {
                return refuse(TOO_MANY, start);
            }
            if (!readNumber(0, MOST_UNITS)) {
                return false;
            }
            draft.units[draft.pieces] = value;
            draft.pieces++;
            return readSign();
        }

        private boolean readWhole() {
            if (!readNumber(0, draft.pieces - 1)) {
                return false;
            }
            if ((draft.whole >> value & 1) == 1) {
                return refuse(SECOND_TIME, start);
            }
            draft.whole |= 1 << value;
            return readSign();
        }

        private boolean readSort() {
            piecesClosed = true;
            if (!readNumber(1, ALL_SORTS - 1)) {
                return false;
            }
            int sort = value;
            if ((sorts >> sort & 1) == 1) {
                return refuse(SECOND_TIME, start);
            }
            sorts |= 1 << sort;
            for (int p = 0; p < draft.pieces; p++) {
                if (!readNumber(0, MOST_UNITS)) {
                    return false;
                }
                draft.units[sort * MOST_PIECES + p] = value;
            }
            return readSign();
        }

        private boolean readRow() {
            if (!readNumber(0, ALL_SORTS - 1)) {
                return false;
            }
            draft.row[0] = value;
            boolean more = readToken();
            for (int i = 1; i < MOST_ROW && more && kind == NUMBER; i++) {
                if (!isWithin(0, ALL_SORTS - 1)) {
                    return false;
                }
                draft.row[i] = value;
                draft.rowLength = i + 1;
                more = readToken();
            }
            if (more && kind == NUMBER) {
                return refuse(TOO_MANY, start);
            }
            return more && isSign();
        }

        private boolean readHand() {
            if (handsClosed || draft.hands >= MOST_HANDS) {
                return refuse(TOO_MANY, start);
            }
            piecesClosed = true;
            for (int p = 0; p < draft.pieces; p++) {
                if (!readNumber(1, MOST_PACE)) {
                    return false;
                }
                draft.paces[draft.hands * MOST_PIECES + p] = value;
            }
            draft.hands++;
            return readSign();
        }

        private boolean readWalk() {
            if (!readNumber(0, MOST_WALK)) {
                return false;
            }
            draft.walk = value;
            return readSign();
        }

        private boolean readLearn() {
            if (!readNumber(0, MOST_LEARN)) {
                return false;
            }
            draft.learn = value;
            return readSign();
        }

        private boolean readEnds(int rule) {
            piecesClosed = true;
            handsClosed = true;
            draft.kind = rule;
            int lowest = 1;
            for (int h = 0; h < draft.hands - 1; h++) {
                if (!readNumber(lowest, draft.pieces)) {
                    return false;
                }
                lowest = value;
                draft.ends[h] = value;
            }
            return readSign();
        }

        // ---- tokens

        private boolean readNumber(int lowest, int highest) {
            if (!readToken()) {
                return false;
            }
            if (kind != NUMBER) {
                return refuse(NOT_THERE, start);
            }
            return isWithin(lowest, highest);
        }

        private boolean isWithin(int lowest, int highest) {
            if (value < lowest || value > highest) {
                return refuse(OUT_OF_BOUNDS, start);
            }
            return true;
        }

        private boolean readSign() {
            return readToken() && isSign();
        }

        private boolean isSign() {
            return kind == SIGN || refuse(NOT_THERE, start);
        }

        private boolean readToken() {
            while (next < length && tape[next] == ' ') {
                next++;
            }
            start = next;
            if (next >= length) {
                kind = AT_END;
                return true;
            }
            if (tape[next] == ';') {
                kind = SIGN;
                next++;
                return true;
            }
            if (isLetter(next)) {
                return readName();
            }
            if (isFigure(next)) {
                return readFigures();
            }
            return refuse(NO_TOKEN, start);
        }

        private boolean readName() {
            kind = NAME;
            while (next < length && isLetter(next)) {
                next++;
            }
            value = NO_NAME;
            for (int name = 0; name < ALL_NAMES && value == NO_NAME; name++) {
                String word = wordOf(name);
                int same = 0;
                while (same < word.length() && start + same < next && tape[start + same] == word.charAt(same)) {
                    same++;
                }
                if (same == word.length() && start + same == next) {
                    value = name;
                }
            }
            return value != NO_NAME || refuse(NO_TOKEN, start);
        }

        private boolean readFigures() {
            kind = NUMBER;
            value = 0;
            while (next < length && isFigure(next)) {
                value = next - start < 2 ? value * 10 + tape[next] - '0' : value;
                next++;
            }
            return next - start <= 2 || refuse(NO_TOKEN, start);
        }

        private boolean isLetter(int at) {
            return tape[at] >= 'a' && tape[at] <= 'z';
        }

        private boolean isFigure(int at) {
            return tape[at] >= '0' && tape[at] <= '9';
        }

        private static String wordOf(int name) {
            switch (name) {
                case PIECE: return "piece";
                case WHOLE: return "whole";
                case SORT: return "sort";
                case ROW: return "row";
                case HAND: return "hand";
                case WALK: return "walk";
                case LEARN: return "learn";
                case BACK: return "back";
                case ZONE: return "zone";
                case FIXED: return "fixed";
                default: return "";
            }
        }
    }
}
