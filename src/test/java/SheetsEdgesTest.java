/** Sheets, reading paces from them, and counts: each sentence of the document that names an edge, one by one. */
public final class SheetsEdgesTest {
    private static final int BAD = HandToHand.BAD, NONE = HandToHand.NONE;
    private static final int LOW = Integer.MIN_VALUE, HIGH = Integer.MAX_VALUE;
    private static final int NULL = 1, INDEX = 2, CAST = 3;

    private SheetsEdgesTest() {
    }

    public static void main(String[] args) {
        sheetsAtFirst();
        sheet();
        sizeBelowNothing();
        lay();
        lowestBits();
        read();
        cells();
        machineRefuses();
        ofNone();
        refusedNumbers();
        badPaces();
        wholeOnes();
        whatStays();
        torn();
        count();
        Due.end();
    }

    /** A hand with a pace of 9 at each of some pieces, and more like her. */
    private static HandToHand bench(int pieces, int hands) {
        return Tape.told("piece 1;".repeat(pieces) + ("hand" + " 9".repeat(pieces) + ";").repeat(hands));
    }

    private static void fill(HandToHand x, int k, int lane, int... cells) {
        Due.same("a new sheet", x.sheet(k, lane, cells.length), 1);
        for (int i = 0; i < cells.length; i++) {
            Due.same("cell " + i, x.lay(k, i, cells[i]), 1);
        }
    }

    private static String paces(HandToHand x) {
        StringBuilder b = new StringBuilder();
        for (int h = 0; h < x.rule(1); h++) {
            int hand = h;
            b.append(h == 0 ? "" : " / ").append(Look.row(x.rule(0) - 1, p -> x.pace(hand, p)));
        }
        return b.toString();
    }

    /** What a cell holds, if it is a pace; else -20. */
    private static int cell(HandToHand x, int k, int lane, int i) {
        int told = x.read(k, lane, i, 0, 1);
        return told == 1 ? x.pace(0, 0) : told;
    }

    // ---- sheets

    private static void sheetsAtFirst() {
        Due.about("SHEETS 0 to 3 are rows of BYTES (lane 0), SHORTS (1), INTS (2), all with a sign, with 0 to 40 CELLS, or nothing (at"
            + " first).");
        HandToHand x = bench(1, 1);
        for (int k = 0; k < 4; k++) {
            Due.same("nothing at first", x.lay(k, 0, 1), -11);
            Due.same("nothing to read", x.read(k, 0, 0, 0, 1) * 10 + x.torn(), NULL);
        }
        for (int k = 0; k < 4; k++) {
            for (int lane = 0; lane < 3; lane++) {
                Due.same("sheet " + k + " of lane " + lane, x.sheet(k, lane, 40), 1);
                Due.same("the first cell", x.lay(k, 0, 1), 1);
                Due.same("the last cell", x.lay(k, 39, 5), 1);
                Due.same("no more", x.lay(k, 40, 5), -12);
                Due.same("it is there", cell(x, k, lane, 39), 5);
            }
        }
        Due.same("each by itself", x.lay(0, 7, 3) + x.lay(3, 7, 4), 2);
        Due.same("of 0", cell(x, 0, 2, 7), 3);
        Due.same("of 3", cell(x, 3, 2, 7), 4);
        Due.same("of 1", cell(x, 1, 2, 7), -20);
    }

    private static void sheet() {
        Due.about("A SHEET is a new row of CELLS 0: 1. BAD: also n above 40");
        HandToHand x = bench(1, 1);
        for (int wrong : new int[] {-1, 4, LOW, HIGH}) {
            Due.same("sheet " + wrong, x.sheet(wrong, 0, 1), BAD);
        }
        for (int wrong : new int[] {-1, 3, LOW, HIGH}) {
            Due.same("lane " + wrong, x.sheet(0, wrong, 1), BAD);
        }
        for (int wrong : new int[] {41, 100, HIGH}) {
            Due.same(wrong + " cells", x.sheet(0, 0, wrong), BAD);
        }
        Due.same("there is nothing still", x.count(2), NONE);
        Due.same("40 cells", x.sheet(0, 0, 40), 1);
        Due.same("40", x.count(2), 40);
        x.lay(0, 0, 7);
        x.lay(0, 39, 7);
        for (int wrong : new int[] {41, -1, HIGH, LOW}) {
            x.sheet(0, 0, wrong);
            x.sheet(0, wrong, 1);
        }
        Due.same("refused, it stays", x.count(2) * 100 + cell(x, 0, 0, 0) * 10 + cell(x, 0, 0, 39), 4077);
        Due.same("a new row", x.sheet(0, 0, 40), 1);
        Due.same("cells of 0", cell(x, 0, 0, 0) + cell(x, 0, 0, 39), -40);
        Due.same("no cells", x.sheet(0, 1, 0), 1);
        Due.same("none", x.count(2), 0);
        Due.same("no cell 0", x.lay(0, 0, 1), -12);
        Due.same("nor one to read", x.read(0, 1, 0, 0, 1) * 10 + x.torn(), INDEX);
        Due.same("but it is not nothing: of another lane", x.read(0, 0, 0, 0, 1) * 10 + x.torn(), CAST);
        Due.same("fewer cells, then more", x.sheet(0, 0, 2) + x.lay(0, 1, 6) + x.sheet(0, 0, 1) + x.sheet(0, 0, 2), 4);
        Due.same("are of 0 again", cell(x, 0, 0, 1), -20);
    }

    private static void sizeBelowNothing() {
        Due.about("-14 (SIZE): n below 0.");
        HandToHand x = bench(1, 1);
        for (int n : new int[] {-1, -40, LOW}) {
            for (int lane = 0; lane < 3; lane++) {
                Due.same(n + " cells of lane " + lane, x.sheet(3, lane, n), -14);
            }
        }
        Due.same("there is nothing still", x.lay(3, 0, 1), -11);
        fill(x, 3, 2, 5);
        Due.same("refused", x.sheet(3, 0, -1), -14);
        Due.same("it stays", cell(x, 3, 2, 0), 5);
        Due.same("BAD comes first: sheet", x.sheet(4, 0, -1), BAD);
        Due.same("BAD comes first: lane", x.sheet(0, 3, -1), BAD);
        Due.same("it is no FAULT of reading", x.torn(), 0);
    }

    private static void lay() {
        Due.about("BAD: k; -10 less the FAULT: NULL, INDEX.");
        HandToHand x = bench(1, 1);
        fill(x, 1, 0, 1, 2, 3);
        for (int wrong : new int[] {-1, 4, LOW, HIGH}) {
            Due.same("sheet " + wrong, x.lay(wrong, 0, 9), BAD);
            Due.same("sheet and cell " + wrong, x.lay(wrong, wrong, 9), BAD);
        }
        for (int wrong : new int[] {-1, 3, 40, LOW, HIGH}) {
            Due.same("cell " + wrong, x.lay(1, wrong, 9), -12);
        }
        for (int any : new int[] {-1, 0, 40, LOW, HIGH}) {
            Due.same("cell " + any + " of nothing", x.lay(0, any, 9), -11);
        }
        Due.same("what was there stays", cell(x, 1, 0, 0) * 100 + cell(x, 1, 0, 1) * 10 + cell(x, 1, 0, 2), 123);
        Due.same("the first", x.lay(1, 0, 8), 1);
        Due.same("the last", x.lay(1, 2, 7), 1);
        Due.same("they are", cell(x, 1, 0, 0) * 100 + cell(x, 1, 0, 1) * 10 + cell(x, 1, 0, 2), 827);
        Due.same("no FAULT of reading", x.torn(), 0);
    }

    private static void lowestBits() {
        Due.about("CELL i of a SHEET becomes v (its lowest bits): 1.");
        HandToHand x = bench(1, 1);
        int[][] bytes = {{9, 9}, {127, -20}, {128, -20}, {255, -20}, {256, -20}, {257, 1}, {265, 9}, {266, -20}, {-255, 1}, {-247, 9},
            {-1, -20}, {0x7FFFFF05, 5}, {LOW, -20}, {LOW + 6, 6}, {65536 + 7, 7}};
        int[][] shorts = {{9, 9}, {257, -20}, {32767, -20}, {65536, -20}, {65537, 1}, {65545, 9}, {-65535, 1}, {-255, -20}, {-1, -20},
            {0x7FFF0005, 5}, {LOW + 6, 6}};
        int[][] ints = {{9, 9}, {257, -20}, {65537, -20}, {-65535, -20}, {-1, -20}, {0x7FFF0005, -20}, {LOW + 6, -20}, {HIGH, -20}};
        int[][][] all = {bytes, shorts, ints};
        for (int lane = 0; lane < 3; lane++) {
            x.sheet(2, lane, 3);
            for (int[] one : all[lane]) {
                Due.same("lay " + one[0], x.lay(2, 1, one[0]), 1);
                Due.same(one[0] + " in a cell of lane " + lane, cell(x, 2, lane, 1), one[1]);
            }
        }
    }

    // ---- reading

    private static void read() {
        Due.about("PACES of HANDS from HAND h on, n (0 to 5; h and n no more than there are) of them, are read of a SHEET taken as of a"
            + " lane, all PIECES of each, from CELL f on: how many HANDS were told.");
        HandToHand x = bench(2, 3);
        fill(x, 0, 0, 1, 2, 3, 4, 5, 6, 7, 8);
        Due.same("all", x.read(0, 0, 0, 0, 3), 3);
        Due.same("all paces", paces(x), "1 2 / 3 4 / 5 6");
        Due.same("the last hand", x.read(0, 0, 6, 2, 1), 1);
        Due.same("hers", paces(x), "1 2 / 3 4 / 7 8");
        Due.same("from an odd cell on", x.read(0, 0, 1, 1, 2), 2);
        Due.same("theirs", paces(x), "1 2 / 2 3 / 4 5");
        Due.same("the first hand", x.read(0, 0, 5, 0, 1), 1);
        Due.same("hers", paces(x), "6 7 / 2 3 / 4 5");
        HandToHand most = bench(8, 5);
        int[] cells = new int[40];
        for (int i = 0; i < 40; i++) {
            cells[i] = 1 + i % 9;
        }
        fill(most, 3, 2, cells);
        Due.same("five hands of eight pieces", most.read(3, 2, 0, 0, 5), 5);
        Due.same("40 cells", most.pace(0, 0) * 100 + most.pace(0, 7) * 10 + most.pace(4, 7), 184);
        Due.same("no fault", most.torn(), 0);
    }

    private static void cells() {
        Due.about("from CELL f on");
        HandToHand x = bench(2, 2);
        fill(x, 0, 1, 1, 2, 3, 4, 5);
        int[][] all = {{0, 2, 0}, {1, 2, 0}, {2, 1, INDEX}, {3, 1, INDEX}, {4, 0, INDEX}, {5, 0, INDEX}, {6, 0, INDEX}, {40, 0, INDEX},
            {HIGH, 0, INDEX}, {HIGH - 1, 0, INDEX}, {HIGH - 3, 0, INDEX}, {-1, 0, INDEX}, {-2, 0, INDEX}, {-4, 0, INDEX}, {LOW, 0, INDEX}};
        for (int[] one : all) {
            Due.same("from cell " + one[0], x.read(0, 1, one[0], 0, 2), one[1]);
            Due.same("fault from cell " + one[0], x.torn(), one[2]);
        }
    }

    private static void machineRefuses() {
        Due.about("What the machine refuses: those that were whole ahead are told (its FAULT is asked by torn()");
        HandToHand x = bench(2, 3);
        fill(x, 1, 1, 1, 2, 3, 4, 5);
        Due.same("two are whole", x.read(1, 1, 0, 0, 3), 2);
        Due.same("they are told", paces(x), "1 2 / 3 4 / 9 9");
        Due.same("INDEX", x.torn(), INDEX);
        Due.same("one is whole", x.read(1, 1, 2, 1, 2), 1);
        Due.same("she is told", paces(x), "1 2 / 3 4 / 9 9");
        Due.same("none is whole", x.read(1, 1, 4, 0, 3), 0);
        Due.same("INDEX again", x.torn(), INDEX);
        Due.same("none is told", paces(x), "1 2 / 3 4 / 9 9");

        Due.about("A FAULT is what the machine finds: 1 NULL (nothing), 2 INDEX, 3 CAST (another lane), 4 SIZE (below 0).");
        for (int made = 0; made < 3; made++) {
            fill(x, 1, made, 1, 2);
            for (int lane = 0; lane < 3; lane++) {
                Due.same("of lane " + made + " as of " + lane, x.read(1, lane, 0, 0, 1), made == lane ? 1 : 0);
                Due.same("fault of that", x.torn(), made == lane ? 0 : CAST);
                Due.same("nothing is of any lane", x.read(2, lane, 0, 0, 1) * 10 + x.torn(), NULL);
                Due.same("CAST ahead of INDEX", x.read(1, lane, 2, 0, 1) * 10 + x.torn(), made == lane ? INDEX : CAST);
                Due.same("NULL ahead of INDEX", x.read(2, lane, -1, 0, 1) * 10 + x.torn(), NULL);
            }
        }
    }

    private static void ofNone() {
        Due.about("of n 0: 0, no FAULT, whatever the SHEET is");
        HandToHand x = bench(2, 2);
        fill(x, 1, 1, 1, 2);
        for (int h = 0; h <= 2; h++) {
            int[][] whatever = {{0, 0, 0}, {1, 1, 0}, {1, 0, 0}, {1, 1, -1}, {1, 1, 2}, {2, 2, LOW}, {3, 0, HIGH}};
            for (int[] one : whatever) {
                x.read(0, 0, 0, 0, 1);
                Due.same("a fault ahead", x.torn(), NULL);
                Due.same("0", x.read(one[0], one[1], one[2], h, 0), 0);
                Due.same("no fault", x.torn(), 0);
            }
        }
        Due.same("nothing is told", paces(x), "9 9 / 9 9");
    }

    private static void refusedNumbers() {
        Due.about("BAD: k, lane, h, n;");
        HandToHand x = bench(1, 3);
        fill(x, 1, 1, 1, 2, 3, 4, 5, 6, 7, 8);
        x.read(0, 1, 0, 0, 1);
        int[][] wrong = {{-1, 1, 0, 0, 1}, {4, 1, 0, 0, 1}, {LOW, 1, 0, 0, 1}, {HIGH, 1, 0, 0, 1},
            {1, -1, 0, 0, 1}, {1, 3, 0, 0, 1}, {1, LOW, 0, 0, 1}, {1, HIGH, 0, 0, 1},
            {1, 1, 0, -1, 1}, {1, 1, 0, 3, 1}, {1, 1, 0, 4, 0}, {1, 1, 0, LOW, 1}, {1, 1, 0, HIGH, 1}, {1, 1, 0, -1, 0},
            {1, 1, 0, 0, -1}, {1, 1, 0, 0, 4}, {1, 1, 0, 1, 3}, {1, 1, 0, 2, 2}, {1, 1, 0, 0, 6}, {1, 1, 0, 0, LOW}, {1, 1, 0, 0, HIGH},
            {1, 1, 0, HIGH, HIGH}, {1, 1, 0, LOW, LOW}, {1, 1, 0, HIGH, LOW}, {1, 1, 0, 1, HIGH}, {-1, 3, LOW, -1, -1},
            // Numbers are looked at ahead of the sheet.
            {0, 1, 0, 0, 4}, {0, 3, 0, 0, 1}, {0, 1, 0, 3, 1}, {4, 1, 0, 0, 0}, {1, 3, 0, 0, 0}};
        for (int[] w : wrong) {
            Due.same("read of " + java.util.Arrays.toString(w), x.read(w[0], w[1], w[2], w[3], w[4]), BAD);
            Due.same("torn stays behind " + java.util.Arrays.toString(w), x.torn(), NULL);
        }
        Due.same("nothing is told", paces(x), "9 / 9 / 9");
        HandToHand five = bench(1, 5);
        fill(five, 1, 1, 1, 2, 3, 4, 5, 6);
        Due.same("six of five", five.read(1, 1, 0, 0, 6), BAD);
        Due.same("five of five", five.read(1, 1, 0, 0, 5), 5);
        Due.same("five from the second on", five.read(1, 1, 0, 1, 5), BAD);
        Due.same("four from the second on", five.read(1, 1, 0, 1, 4), 4);
    }

    private static void badPaces() {
        Due.about("-20 less i (0 on): HAND h + i, whole, has a PACE that is not 1 to 9: then none is told; the first met.");
        for (int bad : new int[] {0, 10, -1, LOW, HIGH}) {
            for (int at = 0; at < 6; at++) {
                HandToHand x = bench(2, 4);
                int[] cells = {1, 2, 3, 4, 5, 6};
                cells[at] = bad;
                fill(x, 2, 2, cells);
                x.read(2, 1, 0, 0, 1);
                Due.same(bad + " at " + at, x.read(2, 2, 0, 1, 3), -20 - at / 2);
                Due.same("none is told", paces(x), "9 9 / 9 9 / 9 9 / 9 9");
                Due.same("torn stays", x.torn(), CAST);
            }
        }
        HandToHand x = bench(1, 5);
        fill(x, 0, 0, 1, 0, 3, 0, 5);
        Due.same("the first met", x.read(0, 0, 0, 0, 5), -21);
        Due.same("of others", x.read(0, 0, 2, 0, 3), -21);
        Due.same("not of those that are not asked for", x.read(0, 0, 2, 4, 1), 1);
        Due.same("9 is none", x.lay(0, 1, 9) + x.lay(0, 3, 1) + x.read(0, 0, 0, 0, 5), 7);
        fill(x, 0, 0, 1, 2, 3, 4, 99);
        Due.same("the fifth", x.read(0, 0, 0, 0, 5), -24);
        Due.same("no NULL, CAST comes to that", x.read(0, 1, 0, 0, 5) * 10 + x.torn(), CAST);
    }

    private static void wholeOnes() {
        Due.about("HAND h + i, whole, has a PACE that is not 1 to 9");
        // The second hand has one cell alone, which is no pace: she is not whole.
        HandToHand x = bench(2, 2);
        fill(x, 0, 0, 1, 2, 0);
        Due.same("one is told", x.read(0, 0, 0, 0, 2), 1);
        Due.same("hers", paces(x), "1 2 / 9 9");
        Due.same("INDEX", x.torn(), INDEX);
        // The first is whole and has one that is none: that the second is not whole does not matter.
        fill(x, 0, 0, 1, 0, 3);
        Due.same("the first is met", x.read(0, 0, 0, 0, 2), -20);
        Due.same("none is told", paces(x), "1 2 / 9 9");
        // Nobody is whole from a cell ahead of the first on.
        Due.same("ahead of the first", x.read(0, 0, -1, 0, 2) * 10 + x.torn(), INDEX);
    }

    private static void whatStays() {
        Due.about("how many HANDS were told");
        HandToHand x = Tape.told("piece 1;hand 4;hand 2;learn 1;");
        x.go(30);
        x.keep(0);
        String bench = Look.row(4, x::now) + Look.hands(x) + x.learnt(0, 0) + " " + x.learnt(1, 0);
        int ticks = x.run(10, 0);
        fill(x, 0, 0, 9, 9);
        Due.same("two", x.read(0, 0, 0, 0, 2), 2);
        Due.same("the bench, what was learnt stay", Look.row(4, x::now) + Look.hands(x) + x.learnt(0, 0) + " " + x.learnt(1, 0), bench);
        Due.same("images stay", x.count(0), 1);
        Due.same("the sheet stays", x.count(2), 2);
        Due.holds("runs are by what is told now", x.run(10, 0) > ticks);
    }

    private static void torn() {
        Due.about("The FAULT of the latest read() that answered 0 or more; 0 (one that is refused leaves it).");
        HandToHand x = bench(1, 2);
        Due.same("none yet", x.torn(), 0);
        x.read(4, 0, 0, 0, 1);
        Due.same("refused ahead of all", x.torn(), 0);
        x.read(0, 0, 0, 0, 1);
        Due.same("NULL", x.torn(), NULL);
        Due.same("NULL still", x.torn(), NULL);
        fill(x, 0, 0, 5, 0);
        Due.same("BAD", x.read(0, 0, 0, 0, 3), BAD);
        Due.same("leaves it", x.torn(), NULL);
        Due.same("a bad pace", x.read(0, 0, 0, 0, 2), -21);
        Due.same("leaves it, too", x.torn(), NULL);
        Due.same("one is read", x.read(0, 0, 0, 0, 1), 1);
        Due.same("no fault", x.torn(), 0);
        x.read(0, 1, 0, 0, 1);
        Due.same("CAST", x.torn(), CAST);
        x.lay(0, 1, 6);
        Due.same("one is whole", x.read(0, 0, 1, 0, 2), 1);
        Due.same("INDEX", x.torn(), INDEX);
        Tape.tell(x, "piece 1;hand 1;");
        x.sheet(0, 0, -1);
        x.lay(0, 77, 1);
        x.begin();
        Due.same("other calls leave it", x.torn(), INDEX);
        x.read(0, 0, 0, 0, 0);
        Due.same("of none there is no fault", x.torn(), 0);
    }

    private static void count() {
        Due.about("How many: 0 IMAGES, 1 bytes on THE TAPE, 2 CELLS of SHEET 0 (NONE: nothing), 3 ORDERS. BAD.");
        HandToHand x = new HandToHand();
        Due.same("at first", Look.row(3, x::count), "0 0 -4 6");
        x.keep(1);
        Due.same("an image", x.count(0), 1);
        x.keep(1);
        Due.same("kept twice", x.count(0), 1);
        x.keep(0);
        Due.same("two", x.count(0), 2);
        x.back(0);
        Due.same("two still", x.count(0), 2);
        x.feed(0);
        x.end(3);
        Due.same("bytes", x.count(1), 3);
        for (int k = 1; k < 4; k++) {
            x.sheet(k, 0, 9);
            Due.same("sheet " + k + " is not sheet 0", x.count(2), NONE);
        }
        x.sheet(0, 2, 0);
        Due.same("no cells", x.count(2), 0);
        x.sheet(0, 2, 40);
        Due.same("40 cells", x.count(2), 40);
        int[] orders = {1, 2, 6, 24, 120};
        for (int h = 1; h <= 5; h++) {
            Due.same("orders of " + h, bench(1, h).count(3), orders[h - 1]);
        }
        for (int wrong : new int[] {-1, 4, LOW, HIGH}) {
            Due.same("count " + wrong, x.count(wrong), BAD);
        }
    }
}
