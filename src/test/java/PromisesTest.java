/** The document's promises, one by one: ordinary inputs, the edges that it names, wrong inputs. Answers are worked out by hand. */
public final class PromisesTest {
    private static final int BAD = HandToHand.BAD, STATE = HandToHand.STATE, FULL = HandToHand.FULL, NONE = HandToHand.NONE;
    private static final int LOW = Integer.MIN_VALUE, HIGH = Integer.MAX_VALUE;

    // Two hands, the first slow, at one piece that can not be left midway: coats at 2, 7, 9, 14, ..
    private static final String WHOLE_PIECE = "piece 2;whole 0;hand 3;hand 1;";
    // Hand 0 makes piece 0, hand 1 piece 1 and goes 2 ticks back: coats at 3, 6, 9, ..
    private static final String FIXED_PARTS = "piece 1;piece 1;hand 2 2;hand 1 1;fixed 1;walk 1;";
    // As above, but hand 1 may take over at piece 0: coats at 2, 5, 8, ..
    private static final String ZONES = "piece 1;piece 1;hand 2 2;hand 1 1;zone 1;walk 1;";
    // Ticks for a unit: 3, 3, 2, 2, 1, 1, ..
    private static final String LEARNER = "piece 1;hand 3;learn 2;";
    // Coats of sort 1 leave out piece 1, at which coats of sort 0 are longest.
    private static final String OVERTAKING = "piece 1;piece 3;piece 1;sort 1 1 0 1;row 0 1;hand 1 1 1;hand 1 1 1;";

    private PromisesTest() {
    }

    public static void main(String[] args) {
        constants();
        newObject();
        tape();
        text();
        rules();
        unitsAndPaces();
        beginAndGo();
        night();
        hands();
        learning();
        images();
        runs();
        handingsOver();
        settling();
        whereInTheRing();
        makesAndCould();
        orders();
        parts();
        less();
        sheets();
        reading();
        counting();
        Due.end();
    }

    private static void constants() {
        Due.same("BAD", BAD, -1);
        Due.same("STATE", STATE, -2);
        Due.same("FULL", FULL, -3);
        Due.same("NONE", NONE, -4);
    }

    // Promise 1
    private static void newObject() {
        HandToHand x = new HandToHand();
        int[] told = {3, 3, 0, 0, 0, 0, 1};
        for (int what = 0; what < told.length; what++) {
            Due.same("first rule " + what, x.rule(what), told[what]);
        }
        for (int i = 0; i < 3; i++) {
            for (int p = 0; p < 3; p++) {
                Due.same("first units", x.units(i, p), 2);
                Due.same("first pace", x.pace(i, p), 3 - i);
            }
            Due.same("first end", x.rule(20 + i), 3);
        }
        for (int k = 0; k < 4; k++) {
            Due.same("first sheet", x.lay(k, 0, 0), -11);
        }
        Due.same("first fault", x.fault(), 0);
        Due.same("first torn", x.torn(), 0);
        Due.same("first images", x.count(0), 0);
        Due.same("first tape", x.count(1), 0);
        Due.same("first tick", x.now(0), 0);
        Due.same("first handings over", x.now(2), 3);
    }

    // Promises 2 and 3
    private static void tape() {
        HandToHand x = new HandToHand();
        for (int i = 1; i <= 50; i++) {
            Due.same("feed", x.feed(0x2020202020202020L), 8 * i);
        }
        Due.same("feed at 400", x.feed(0), FULL);
        Due.same("it stays", x.count(1), 400);
        Due.same("end below", x.end(-1), BAD);
        Due.same("end above", x.end(401), BAD);
        Due.same("end lowest", x.end(LOW), BAD);
        Due.same("end highest", x.end(HIGH), BAD);
        Due.same("end of all", x.end(400), 400);
        Due.same("end 393", x.end(393), 400);
        Due.same("feed at 393", x.feed(0), FULL);
        Due.same("end 392", x.end(392), 393);
        Due.same("feed at 392", x.feed(0), 400);
        Due.same("end 0", x.end(0), 400);
        Due.same("end 1 of none", x.end(1), BAD);
        Due.same("end 0 of none", x.end(0), 0);

        // "piece 1;" and "hand 9; " have their highest byte first.
        Due.same("piece 1;", x.feed(0x706965636520313BL), 8);
        Due.same("hand 9; ", x.feed(0x68616E6420393B20L), 16);
        Due.same("taken", x.text(), 2);
        Due.same("pace", x.pace(0, 0), 9);

        // What is behind the end is gone, even if less comes behind it.
        Tape.feed(x, "piece 1;hand 9;walk 1;");
        x.end(15);
        Due.same("cut", x.text(), 2);
        Due.same("no walk", x.rule(2), 0);
        // Bytes above 127 are bytes, but no tokens.
        Due.same("high bytes", x.feed(-1L), 8);
        Due.same("are no tokens", x.text(), -10);
        Due.same("fault", x.fault(), 1);
    }

    private static void refused(String text, int fault, int place) {
        HandToHand x = new HandToHand();
        Tape.feed(x, "piece 4;hand 7;walk 3;");
        x.text();
        x.keep(1);
        x.go(5);
        Tape.feed(x, text);
        Due.same("place of: " + text, x.text(), -10 - place);
        Due.same("fault of: " + text, x.fault(), fault);
        Due.same("the tape is empty behind: " + text, x.count(1), 0);
        Due.same("what was told stays behind: " + text, x.units(0, 0) * 100 + x.rule(0) * 10 + x.rule(2), 413);
        Due.same("the bench stays behind: " + text, x.now(0), 5);
        Due.same("images stay behind: " + text, x.count(0), 1);
    }

    private static void refusedAtEnd(String text, int fault) {
        refused(text, fault, text.length());
    }

    // Promises 4 and 5
    private static void text() {
        noTokens();
        notThere();
        outOfBounds();
        secondTimes();
        tooMany();
        refusedAtEnd("", 6);
        refusedAtEnd("   ", 6);
        refusedAtEnd("piece 1;", 6);
        refusedAtEnd("hand;", 6);
        refusedAtEnd("walk 1;learn 0;row 1;zone;  ", 6);
        refusedAtEnd("piece 0;hand 1;", 7);
        refusedAtEnd("piece 0;piece 0;hand 1 1;", 7);
        refusedAtEnd("piece 1;sort 2 0;hand 1;", 7);
        refusedAtEnd("piece 0;sort 1 1;sort 2 1;hand 1;row 1;", 7);
        taken();
    }

    private static void noTokens() {
        refused("?", 1, 0);
        refused("  Piece 1;", 1, 2);
        refused("piece 1,", 1, 7);
        refused("piece\t1;", 1, 5);
        refused("pieces 1;", 1, 0);
        refused("piec 1;", 1, 0);
        refused("piecehand 1;", 1, 0);
        refused("p;", 1, 0);
        refused("piece 001;", 1, 6);
        refused("piece 1000000000000;", 1, 6);
        refused("piece foo;", 1, 6);
        refused("walk 1;;", 2, 7);
        // Read before it is looked at: no token comes ahead of a token in the wrong place ..
        refused("row 0 0 0 0 0 0 100;", 1, 16);
        refused("back 100;", 1, 5);
        refused("123", 1, 0);
        // .. but not ahead of what the token before it is refused for.
        refused("piece 7?", 3, 6);
        refused("walk 1;walk?", 4, 7);
    }

    private static void notThere() {
        refused(";", 2, 0);
        refused("1", 2, 0);
        refused("piece;", 2, 5);
        refused("piece piece", 2, 6);
        refusedAtEnd("piece", 2);
        refusedAtEnd("piece 1", 2);
        refusedAtEnd("piece 1  ", 2);
        refused("piece 1 1;", 2, 8);
        refused("piece 1 hand", 2, 8);
        refused("whole;", 2, 5);
        refused("piece 1;whole 0 0;", 2, 16);
        refused("sort;", 2, 4);
        refused("piece 1;sort 1;", 2, 14);
        refused("piece 1;sort 1 1 1;", 2, 17);
        refused("piece 1;sort 1 1 9;", 2, 17);
        refused("row;", 2, 3);
        refused("row 0 row", 2, 6);
        refusedAtEnd("row 0 1 2", 2);
        refused("piece 1;hand;", 2, 12);
        refused("piece 1;hand 1 99;", 2, 15);
        refusedAtEnd("piece 1;hand 1", 2);
        refused("walk;", 2, 4);
        refused("walk 1 1;", 2, 7);
        refused("learn;", 2, 5);
        refused("learn 1 1;", 2, 8);
        refused("back 1;", 2, 5);
        refusedAtEnd("back", 2);
        refused("zone 1;", 2, 5);
        refused("piece 1;hand 1;zone 1;", 2, 20);
        refused("piece 1;hand 1;hand 1;zone;", 2, 26);
        refused("piece 1;hand 1;hand 1;fixed 1 1;", 2, 30);
    }

    private static void outOfBounds() {
        refused("piece 7;", 3, 6);
        refused("piece 99;", 3, 6);
        refused("whole 0;", 3, 6);
        refused("piece 1;whole 1;", 3, 14);
        refused("sort 0;", 3, 5);
        refused("sort 3;", 3, 5);
        refused("piece 1;sort 1 7;", 3, 15);
        refused("row 3;", 3, 4);
        refused("row 0 3;", 3, 6);
        refused("piece 1;hand 0;", 3, 13);
        refused("piece 1;hand 10;", 3, 13);
        refused("walk 6;", 3, 5);
        refused("hand;hand;zone 1;", 3, 15);
        refused("piece 1;hand 1;hand 1;zone 0;", 3, 27);
        refused("piece 1;hand 1;hand 1;zone 2;", 3, 27);
        refused("piece 1;piece 1;hand 1 1;hand 1 1;hand 1 1;fixed 2 1;", 3, 51);
    }

    private static void secondTimes() {
        refused("piece 1;sort 1 1;sort 1 1;", 4, 22);
        refused("row 0;row 0;", 4, 6);
        refused("walk 0;walk 0;", 4, 7);
        refused("learn 0;learn 0;", 4, 8);
        refused("back;back;", 4, 5);
        refused("back;zone;", 4, 5);
        refused("zone;fixed;", 4, 5);
        refused("fixed;back;", 4, 6);
        refused("piece 1;whole 0;whole 0;", 4, 22);
    }

    private static void tooMany() {
        String eight = "piece 1;piece 1;piece 1;piece 1;piece 1;piece 1;piece 1;piece 1;";
        refused(eight + "piece 1;", 5, 64);
        refused("piece 1;hand 1;hand 1;hand 1;hand 1;hand 1;hand 1;", 5, 43);
        refused("piece 1;sort 1 1;piece 1;", 5, 17);
        refused("hand;piece 1;", 5, 5);
        refused("zone;piece 1;", 5, 5);
        refused("fixed;piece 1;", 5, 6);
        refused("piece 1;zone;hand 1;", 5, 13);
        refused("piece 1;hand 1;fixed;hand 1;", 5, 21);
        refused("row 0 1 2 0 1 2 0;", 5, 16);
        refused("row 0 1 2 0 1 2 99;", 5, 16);
        Tape.told(eight + "hand 1 1 1 1 1 1 1 1;");
        Tape.told("piece 1;hand 1;hand 1;hand 1;hand 1;hand 1;row 0 1 2 0 1 2;");
        Tape.told("piece 1;back;hand 1;");
        Tape.told("piece 1;whole 0;row 0;walk 0;learn 0;back;piece 1;hand 1 1;");
    }

    private static void taken() {
        HandToHand x = new HandToHand();
        Due.same("blanks", Tape.tell(x, "  piece  2 ;piece3;hand 4 5;walk5 ;  row2 1 0;sort 1 0 06;learn 99;whole1;  "), 8);
        Due.same("no fault", x.fault(), 0);
        Due.same("sort 1", x.units(1, 0) * 10 + x.units(1, 1), 6);
        Due.same("sort 2 as sort 0", x.units(2, 0) * 10 + x.units(2, 1), 23);
        Due.same("walk", x.rule(2), 5);
        Due.same("learn", x.rule(3), 99);
        Due.same("row", x.rule(6) * 1000 + x.rule(10) * 100 + x.rule(11) * 10 + x.rule(12), 3210);
        Due.same("whole", x.rule(5), 2);

        x.keep(0);
        x.sheet(0, 0, 3);
        x.go(100);
        Due.same("a fault", Tape.tell(x, "?"), -10);
        Due.same("fault", x.fault(), 1);
        Due.same("another text", Tape.tell(x, "piece 1;hand 1;"), 2);
        Due.same("no fault any more", x.fault(), 0);
        Due.same("as at first", x.rule(2) + x.rule(3) + x.rule(4) + x.rule(5) + x.rule(10), 0);
        Due.same("row as at first", x.rule(6), 1);
        Due.same("sort 1 as at first", x.units(1, 0), 1);
        Due.same("the bench begins anew", x.now(0), 0);
        Due.same("images are gone", x.count(0), 0);
        Due.same("so there is none", x.back(0), STATE);
        Due.same("sheets stay", x.count(2), 3);
    }

    // Promise 6
    private static void rules() {
        HandToHand x = Tape.told("piece 1;piece 1;piece 1;hand 1 1 1;hand 1 1 1;hand 1 1 1;fixed 1 3;row 0 1 2 2 1 0;whole 2;whole 0;");
        int[] told = {3, 3, 0, 0, 2, 5, 6};
        for (int what = 0; what < told.length; what++) {
            Due.same("rule " + what, x.rule(what), told[what]);
        }
        int[] row = {0, 1, 2, 2, 1, 0};
        for (int i = 0; i < row.length; i++) {
            Due.same("row " + i, x.rule(10 + i), row[i]);
        }
        Due.same("end 0", x.rule(20), 1);
        Due.same("end 1", x.rule(21), 3);
        Due.same("the last end", x.rule(22), 3);
        for (int what : new int[] {-1, 7, 9, 16, 19, 23, 25, LOW, HIGH}) {
            Due.same("rule " + what, x.rule(what), BAD);
        }
        Due.same("zone", Tape.told(ZONES).rule(4), 1);
        HandToHand y = Tape.told("piece 1;piece 1;hand 1 1;hand 1 1;back;");
        Due.same("back", y.rule(4), 0);
        Due.same("end by back", y.rule(20), 2);
        Due.same("no second in the row", y.rule(11), BAD);
    }

    // Promises 7 to 9
    private static void unitsAndPaces() {
        HandToHand x = Tape.told("piece 1;piece 6;sort 2 0 3;hand 7 8;hand 9 1;learn 1;");
        Due.same("units", x.units(0, 1) * 100 + x.units(1, 1) * 10 + x.units(2, 1), 663);
        Due.same("units of none", x.units(2, 0), 0);
        Due.same("units -1", x.units(-1, 0), BAD);
        Due.same("units 3", x.units(3, 0), BAD);
        Due.same("units of piece -1", x.units(0, -1), BAD);
        Due.same("units of piece 2", x.units(0, 2), BAD);
        Due.same("pace", x.pace(0, 0) * 1000 + x.pace(0, 1) * 100 + x.pace(1, 0) * 10 + x.pace(1, 1), 7891);
        Due.same("pace of -1", x.pace(-1, 0), BAD);
        Due.same("pace of 2", x.pace(2, 0), BAD);
        Due.same("pace at -1", x.pace(0, -1), BAD);
        Due.same("pace at 2", x.pace(0, 2), BAD);

        x.go(9);
        int tick = x.now(0);
        int learnt = x.learnt(1, 0);
        int left = x.hand(1, 1);
        Due.same("setPace", x.setPace(1, 0, 4), 9);
        Due.same("it is so", x.pace(1, 0), 4);
        Due.same("setPace to the same", x.setPace(1, 0, 4), 4);
        Due.same("the tick stays", x.now(0), tick);
        Due.same("what was learnt stays", x.learnt(1, 0), learnt);
        Due.same("ticks left stay", x.hand(1, 1), left);
        Due.same("learnt one", learnt, 1);
        Due.same("it takes", x.takes(1, 0), 3);
        for (int v : new int[] {0, 10, -1, LOW, HIGH}) {
            Due.same("setPace to " + v, x.setPace(0, 0, v), BAD);
        }
        Due.same("setPace of -1", x.setPace(-1, 0, 1), BAD);
        Due.same("setPace of 2", x.setPace(2, 0, 1), BAD);
        Due.same("setPace at -1", x.setPace(0, -1, 1), BAD);
        Due.same("setPace at 2", x.setPace(0, 2, 1), BAD);
        Due.same("nothing is set", x.pace(0, 0), 7);

        HandToHand y = Tape.told("piece 1;hand 3;");
        Due.same("by 3", y.makes(1) * 1000 + y.run(2, 0) * 100 + y.order(0, 1) * 10 + y.parts(1), 3633);
        y.setPace(0, 0, 4);
        Due.same("by 4", y.makes(1) * 1000 + y.run(2, 0) * 100 + y.order(0, 1) * 10 + y.parts(1), 4844);
    }

    // Promises 10, 11 and 13
    private static void beginAndGo() {
        HandToHand x = Tape.told(FIXED_PARTS);
        Due.same("go 0", x.go(0), BAD);
        Due.same("go -1", x.go(-1), BAD);
        Due.same("go 10000", x.go(10000), BAD);
        Due.same("nothing went", x.now(0), 0);
        Due.same("nobody takes over ahead of the end", x.now(2), 0);
        Due.same("go 2", x.go(2), 0);
        Due.same("one handing over", x.now(2), 1);
        Due.same("the last tick counts", x.go(1), 1);
        Due.same("go 6", x.go(6), 2);
        Due.same("tick", x.now(0), 9);
        Due.same("done", x.now(1), 3);
        Due.same("handings over", x.now(2), 3);
        Due.same("not stuck", x.now(3), 0);
        Due.same("place in the row", x.now(4), 0);
        Due.same("now 5", x.now(5), BAD);
        Due.same("now -1", x.now(-1), BAD);
        Due.same("go 9999", x.go(9999), 3333);
        Due.same("begin", x.begin(), 3336);
        Due.same("anew", x.now(0) + x.now(1) + x.now(2), 0);
        Due.same("nobody waited", x.hand(0, 5) + x.hand(1, 5), 0);
        Due.same("begin again", x.begin(), 0);

        HandToHand y = Tape.told(OVERTAKING);
        Due.same("two coats are begun", y.now(4), 0);
        y.go(6);
        Due.same("two more", y.now(4), 0);
        y = Tape.told("piece 1;row 0 1 2;hand 2;");
        Due.same("next is place 1", y.now(4), 1);
        y.go(2);
        Due.same("next is place 2", y.now(4), 2);
        y.go(2);
        Due.same("next is place 0", y.now(4), 0);
        Due.same("the third sort", y.hand(0, 4), 2);
    }

    // Promise 12
    private static void night() {
        HandToHand x = Tape.told("piece 2;row 0 1 2;hand 3;hand 3;learn 1;");
        // Two coats are begun; hand 1 has done one unit at 3, hand 0 one at 6, takes 2 then.
        x.go(4);
        Due.same("place ahead of the night", x.now(4), 2);
        Due.same("waited ahead of the night", x.hand(0, 5), 3);
        Due.same("two coats lay there", x.night(), 2);
        Due.same("the tick goes on", x.now(0), 4);
        Due.same("handings over go on", x.now(2), 2);
        Due.same("learnt stays", x.learnt(1, 0), 1);
        Due.same("what was midway is not learnt", x.learnt(0, 0), 0);
        Due.same("waited goes on", x.hand(0, 5), 3);
        Due.same("the row begins anew", x.hand(1, 4) * 10 + x.hand(0, 4), 1);
        Due.same("next in the row", x.now(4), 2);
        Due.same("at once she works, by what she learnt", x.hand(1, 0) * 10 + x.hand(1, 1), 32);
        Due.same("coats done go on", x.go(3) + x.now(1), 2);
        Due.same("one coat lies there", Tape.told("piece 1;hand 1;").night(), 1);
        HandToHand y = Tape.told(FIXED_PARTS);
        Due.same("a ready hand has none", y.night(), 1);
    }

    // Promise 14
    private static void hands() {
        HandToHand x = Tape.told(FIXED_PARTS);
        x.go(3);
        int[] walks = {1, 2, NONE, NONE, NONE, 2};
        int[] works = {3, 1, 0, 0, 0, 0};
        for (int what = 0; what < 6; what++) {
            Due.same("hand 1 walks, " + what, x.hand(1, what), walks[what]);
            Due.same("hand 0 works, " + what, x.hand(0, what), works[what]);
        }
        x.go(1);
        int[] stands = {2, 0, 1, 0, 0, 0};
        for (int what = 0; what < 6; what++) {
            Due.same("hand 0 stands, " + what, x.hand(0, what), stands[what]);
        }
        Due.same("hand 1 walks on", x.hand(1, 0) * 10 + x.hand(1, 1), 11);
        x.go(1);
        Due.same("hand 0 waited", x.hand(0, 5), 1);
        Due.same("hand 1 works", x.hand(1, 0) * 10 + x.hand(1, 1), 31);
        x.begin();
        Due.same("hand 1 is ready", x.hand(1, 0), 0);
        Due.same("hand -1", x.hand(-1, 0), BAD);
        Due.same("hand 2", x.hand(2, 0), BAD);
        Due.same("what -1", x.hand(0, -1), BAD);
        Due.same("what 6", x.hand(0, 6), BAD);

        HandToHand y = Tape.told(OVERTAKING);
        y.go(2);
        Due.same("hand 0 is beyond hand 1, and stands", y.hand(0, 0) * 100 + y.hand(0, 2) * 10 + y.hand(0, 3), 220);
        Due.same("hand 1 works", y.hand(1, 0) * 100 + y.hand(1, 2) * 10 + y.hand(1, 3), 311);
        Due.same("their sorts", y.hand(0, 4) * 10 + y.hand(1, 4), 10);
        y.go(2);
        Due.same("hand 0 stands at the same unit", y.hand(0, 0), 2);
        // Hand 1 is done ahead of hand 0's turn, who thus works on before anybody takes over.
        Due.same("one is done", y.go(1), 1);
        Due.same("hand 0 works", y.hand(0, 0), 3);
        Due.same("hand 1 is ready", y.hand(1, 0), 0);
    }

    // Promises 15 and 16
    private static void learning() {
        HandToHand x = Tape.told(LEARNER);
        int[] ends = {3, 6, 8, 10, 11, 12, 13};
        int[] takes = {3, 2, 2, 1, 1, 1, 1};
        for (int i = 0; i < ends.length; i++) {
            x.go(ends[i] - x.now(0));
            Due.same("done at " + ends[i], x.now(1), i + 1);
            Due.same("learnt at " + ends[i], x.learnt(0, 0), i + 1);
            Due.same("takes at " + ends[i], x.takes(0, 0), takes[i]);
        }
        x.begin();
        Due.same("nothing is learnt", x.learnt(0, 0), 0);
        Due.same("learnt by -1", x.learnt(-1, 0), BAD);
        Due.same("learnt by 1", x.learnt(1, 0), BAD);
        Due.same("learnt at -1", x.learnt(0, -1), BAD);
        Due.same("learnt at 1", x.learnt(0, 1), BAD);
        Due.same("takes -1", x.takes(-1, 0), BAD);
        Due.same("takes 1", x.takes(1, 0), BAD);
        Due.same("takes at -1", x.takes(0, -1), BAD);
        Due.same("takes at 1", x.takes(0, 1), BAD);

        HandToHand y = Tape.told("piece 2;hand 4;");
        y.go(8);
        Due.same("units are done, whether it helps or not", y.learnt(0, 0), 2);
        Due.same("it does not", y.takes(0, 0), 4);
        y = Tape.told("piece 1;hand 1;learn 1;");
        y.go(50);
        Due.same("1 at least", y.takes(0, 0), 1);
    }

    // Promises 17 and 18
    private static void images() {
        HandToHand x = Tape.told(LEARNER);
        Due.same("keep -1", x.keep(-1), BAD);
        Due.same("keep 2", x.keep(2), BAD);
        Due.same("back -1", x.back(-1), BAD);
        Due.same("back 2", x.back(2), BAD);
        Due.same("back of none", x.back(1), STATE);
        x.go(7);
        Due.same("keep", x.keep(1), 0);
        Due.same("one image", x.count(0), 1);
        Due.same("the other one is none", x.back(0), STATE);
        x.go(5);
        Due.same("keep the other one", x.keep(0), 0);
        Due.same("two images", x.count(0), 2);
        Due.same("back", x.back(1), 7);
        Due.same("done", x.now(1), 2);
        Due.same("learnt", x.learnt(0, 0), 2);
        Due.same("ticks left", x.hand(0, 1), 1);
        x.go(1);
        Due.same("it goes on from there", x.now(1), 3);
        Due.same("the image is as it was", x.back(1), 7);
        Due.same("back to the other one", x.back(0), 12);
        Due.same("done there", x.now(1), 6);
        Due.same("keep over one", x.keep(1), 1);
        Due.same("it is that now", x.back(1), 12);
        x.begin();
        Due.same("images stay when it begins anew", x.back(0), 12);

        HandToHand y = Tape.told(FIXED_PARTS);
        y.go(4);
        y.keep(0);
        int[] before = snapshot(y);
        y.go(77);
        y.night();
        y.back(0);
        int[] after = snapshot(y);
        for (int i = 0; i < before.length; i++) {
            Due.same("all is back, " + i, after[i], before[i]);
        }
    }

    private static int[] snapshot(HandToHand x) {
        int[] all = new int[5 + 12 + 4];
        int n = 0;
        for (int what = 0; what < 5; what++) {
            all[n++] = x.now(what);
        }
        for (int h = 0; h < 2; h++) {
            for (int what = 0; what < 6; what++) {
                all[n++] = x.hand(h, what);
            }
            all[n++] = x.learnt(h, 0);
            all[n++] = x.learnt(h, 1);
        }
        return all;
    }

    private static void answers(String of, int[] got, int... want) {
        for (int i = 0; i < want.length; i++) {
            Due.same(of + ", " + i, got[i], want[i]);
        }
    }

    private static int[] runOf(HandToHand x, int m) {
        int[] all = new int[6];
        for (int what = 0; what < 6; what++) {
            all[what] = x.run(m, what);
        }
        return all;
    }

    // Promises 19 and 20
    private static void runs() {
        HandToHand x = Tape.told(FIXED_PARTS);
        x.go(17);
        answers("run 1, fixed", runOf(x, 1), 3, 1, 1, 0, 2, NONE);
        answers("run 2, fixed", runOf(x, 2), 6, 2, 2, 0, 3, 1);
        answers("run 120, fixed", runOf(x, 120), 360, 120, 120, 0, 121, 1);
        Due.same("the bench stays", x.now(0), 17);
        Due.same("waits of 0", x.waits(2, 0), 1);
        Due.same("waits of 1", x.waits(2, 1), 2);
        answers("run 2, zone", runOf(Tape.told(ZONES), 2), 5, 2, 2, 0, 2, 0);
        answers("run 2, whole", runOf(Tape.told(WHOLE_PIECE), 2), 7, 2, 2, 0, 6, 0);
        answers("run 2, overtaking", runOf(Tape.told(OVERTAKING), 2), 6, 2, 2, 0, 5, 2);
        answers("run 5, learning", runOf(Tape.told(LEARNER), 5), 11, 5, 0, 0, 0, NONE);

        // The bench that has learnt much begins a run with nothing learnt.
        HandToHand y = Tape.told(LEARNER);
        y.go(100);
        Due.same("nothing learnt in a run", y.run(2, 0), 6);

        // Hand 1 (sort 0, two pieces) and hand 0 (sort 1, one piece) are done at the same tick.
        HandToHand z = Tape.told("piece 1;piece 1;sort 1 1 0;row 0 1;hand 1 1;hand 1 1;");
        Due.same("two at a time", z.run(1, 1), 2);
        Due.same("at 2", z.run(1, 0), 2);
        for (int what : new int[] {-1, 6, LOW, HIGH}) {
            Due.same("run what " + what, x.run(1, what), BAD);
        }
        for (int m : new int[] {0, -1, 121, LOW, HIGH}) {
            Due.same("run of " + m, x.run(m, 0), BAD);
            Due.same("waits of run " + m, x.waits(m, 0), BAD);
            Due.same("over of run " + m, x.over(m, 0, 0), BAD);
        }
        Due.same("waits of hand -1", x.waits(1, -1), BAD);
        Due.same("waits of hand 2", x.waits(1, 2), BAD);
    }

    // Promises 21 and 22
    private static void handingsOver() {
        HandToHand x = Tape.told(FIXED_PARTS);
        int[] second = {5, 1, 1, 0, 0};
        for (int what = 0; what < 5; what++) {
            Due.same("over, " + what, x.over(2, 1, what), second[what]);
        }
        Due.same("over 2 of a run of 2", x.over(2, 2, 0), BAD);
        Due.same("over 2 of a run of 3", x.over(3, 2, 0), 8);
        Due.same("over -1", x.over(2, -1, 0), BAD);
        Due.same("over what -1", x.over(2, 0, -1), BAD);
        Due.same("over what 5", x.over(2, 0, 5), BAD);
        Due.same("over the last", x.over(120, 119, 0), 359);
        Due.same("over beyond", x.over(120, 120, 0), BAD);
        Due.same("over far beyond", x.over(120, HIGH, 0), BAD);
        HandToHand y = Tape.told(OVERTAKING);
        Due.same("sort of the third", y.over(120, 1, 4), 0);
        HandToHand z = Tape.told("piece 2;row 1 2;hand 1;hand 1;");
        // At 0 hand 1 has sort 1, hand 0 sort 2; at 2 hand 1 takes that over at unit 1.
        Due.same("sort of the first", z.over(1, 0, 4), 1);
        int[] midway = {2, 1, 0, 1, 2};
        for (int what = 0; what < 5; what++) {
            Due.same("over midway, " + what, z.over(1, 1, what), midway[what]);
        }

        Due.same("right", x.judge(1, 5, 1, 1, 0), 0);
        Due.same("tick", x.judge(1, 4, 0, 0, 1), 1);
        Due.same("who", x.judge(1, 5, 0, 0, 1), 2);
        Due.same("piece", x.judge(1, 5, 1, 0, 1), 3);
        Due.same("unit", x.judge(1, 5, 1, 1, 1), 4);
        Due.same("the last is right", x.judge(119, 359, 1, 1, 0), 0);
        Due.same("beyond", x.judge(120, 362, 1, 1, 0), BAD);
        Due.same("below", x.judge(-1, 0, 0, 0, 0), BAD);
        Due.same("alone", Tape.told(LEARNER).judge(0, 0, 0, 0, 0), BAD);
        Due.same("the first of all", Tape.told(FIXED_PARTS).judge(0, 2, 1, 1, 0), 0);
        HandToHand after = Tape.told(FIXED_PARTS);
        after.run(1, 0);
        Due.same("of a run of 120, whatever was asked ahead", after.judge(119, 359, 1, 1, 0), 0);
    }

    private static int[] ringOf(HandToHand x) {
        return new int[] {x.settles(0), x.settles(1), x.settles(2)};
    }

    // Promise 23
    private static void settling() {
        answers("ring, fixed", ringOf(Tape.told(FIXED_PARTS)), 1, 1, 3);
        answers("ring, zone", ringOf(Tape.told(ZONES)), 1, 1, 3);
        answers("ring, whole", ringOf(Tape.told(WHOLE_PIECE)), 1, 2, 7);
        answers("ring, learning", ringOf(Tape.told(LEARNER)), 4, 1, 1);
        answers("ring, first", ringOf(new HandToHand()), 1, 3, 12);
        // The row's place is part of what comes again, though all coats are alike.
        answers("ring, row", ringOf(Tape.told("piece 1;row 0 1 2;hand 2;")), 1, 3, 6);
        // Her pace is 1 from 15 times 8 units on: the 120th coat, and the 121st is beyond.
        answers("no ring", ringOf(Tape.told("piece 1;hand 9;learn 15;")), NONE, NONE, NONE);
        // 14 times 8 is 112: done at that is what comes again at 113.
        answers("a late ring", ringOf(Tape.told("piece 1;hand 9;learn 14;")), 112, 1, 1);
        // 119 is the last that can come again: at 120.
        answers("the last ring", ringOf(Tape.told("piece 1;hand 8;learn 17;")), 119, 1, 1);
        answers("too late", ringOf(Tape.told("piece 1;hand 7;learn 20;")), NONE, NONE, NONE);
        HandToHand x = new HandToHand();
        Due.same("settles -1", x.settles(-1), BAD);
        Due.same("settles 3", x.settles(3), BAD);
        HandToHand y = Tape.told("piece 1;hand 9;learn 15;");
        Due.same("settles 3 without a ring", y.settles(3), BAD);
        y.setPace(0, 0, 1);
        answers("ring of pace 1", ringOf(y), 1, 1, 1);
    }

    // Promise 24
    private static void whereInTheRing() {
        HandToHand x = Tape.told(FIXED_PARTS);
        int[] fixed = {1, 1, 1, 0};
        for (int what = 0; what < 4; what++) {
            Due.same("where, fixed, " + what, x.where(1, what), fixed[what]);
        }
        // From 2, without it, to 9: it takes over at 7 alone, at the first unit.
        HandToHand y = Tape.told(WHOLE_PIECE);
        int[] whole = {1, 1, 0, 0};
        for (int what = 0; what < 4; what++) {
            Due.same("where, whole, " + what, y.where(1, what), whole[what]);
        }
        // Nobody takes over from a hand whose part is all.
        HandToHand z = Tape.told("piece 1;hand 1;hand 1;fixed 1;");
        int[] never = {0, 0, NONE, NONE};
        for (int what = 0; what < 4; what++) {
            Due.same("where, never, " + what, z.where(1, what), never[what]);
        }
        HandToHand v = new HandToHand();
        int[] differ = {3, 0, 1, 0};
        for (int what = 0; what < 3; what++) {
            Due.same("where, first, " + what, v.where(1, what), differ[what]);
        }
        Due.same("where of 0", x.where(0, 0), BAD);
        Due.same("where of -1", x.where(-1, 0), BAD);
        Due.same("where of 2", x.where(2, 0), BAD);
        Due.same("where what -1", x.where(1, -1), BAD);
        Due.same("where what 4", x.where(1, 4), BAD);
        HandToHand w = Tape.told("piece 1;hand 9;hand 9;learn 99;");
        Due.same("where without a ring", w.where(1, 0), NONE);
        Due.same("where without a ring, what 4", w.where(1, 4), BAD);
    }

    // Promises 25 and 26
    private static void makesAndCould() {
        HandToHand x = Tape.told(WHOLE_PIECE);
        Due.same("makes", x.makes(0) * 10 + x.makes(1), 27);
        Due.same("makes -1", x.makes(-1), BAD);
        Due.same("makes 2", x.makes(2), BAD);
        Due.same("could", x.could(0) * 10 + x.could(1), 23);
        Due.same("could -1", x.could(-1), BAD);
        Due.same("could 2", x.could(2), BAD);
        HandToHand none = Tape.told("piece 1;hand 9;learn 99;");
        Due.same("makes without a ring", none.makes(0) * 10 + none.makes(1), 1);
        Due.same("could without a ring", none.could(0) * 10 + none.could(1), 19);
        HandToHand lowest = Tape.told("piece 1;row 0 0 0;hand 2;");
        Due.same("in lowest terms", lowest.makes(0) * 10 + lowest.makes(1), 12);
        Due.same("could in lowest terms", lowest.could(0) * 10 + lowest.could(1), 12);
        // Sort 0 needs 8 and 20 ticks, sort 1 6 and 27: 2 coats by 14 and 2 by 47, whatever walk and learn are.
        HandToHand sorts = Tape.told("piece 2;piece 2;sort 1 3 0;row 0 1;hand 2 2;hand 9 1;walk 5;learn 1;");
        Due.same("could of sorts", sorts.could(0) * 1000 + sorts.could(1), 61 * 1000 + 329);
        // Five hands whose ticks share little.
        HandToHand big = Tape.told("piece 6;piece 6;piece 6;piece 6;piece 6;piece 6;piece 6;piece 5;"
                + "hand 9 9 9 9 9 9 9 6;hand 9 9 9 9 9 9 9 5;hand 9 9 9 9 9 9 8 5;hand 9 9 9 9 9 8 8 5;hand 9 9 9 9 8 8 8 5;");
        java.math.BigInteger top = java.math.BigInteger.ZERO;
        java.math.BigInteger bottom = java.math.BigInteger.ONE;
        for (long ticks : new long[] {408, 403, 397, 391, 385}) {
            java.math.BigInteger t = java.math.BigInteger.valueOf(ticks);
            top = top.multiply(t).add(bottom);
            bottom = bottom.multiply(t);
        }
        java.math.BigInteger common = top.gcd(bottom);
        Due.same("a long numerator", big.could(0), top.divide(common).longValueExact());
        Due.same("a long denominator", big.could(1), bottom.divide(common).longValueExact());
        Due.holds("longer than an int", big.could(1) > HIGH);
    }

    // Promises 27 to 29
    private static void orders() {
        HandToHand x = new HandToHand();
        int[][] all = {{0, 1, 2}, {0, 2, 1}, {1, 0, 2}, {1, 2, 0}, {2, 0, 1}, {2, 1, 0}};
        for (int q = 0; q < 6; q++) {
            for (int i = 0; i < 3; i++) {
                Due.same("stands " + q + " " + i, x.stands(q, i), all[q][i]);
            }
        }
        for (int q : new int[] {-1, 6, LOW, HIGH}) {
            Due.same("stands " + q, x.stands(q, 0), BAD);
            Due.same("order " + q, x.order(q, 0), BAD);
        }
        Due.same("stands at -1", x.stands(0, -1), BAD);
        Due.same("stands at 3", x.stands(0, 3), BAD);
        Due.same("order what -1", x.order(0, -1), BAD);
        Due.same("order what 2", x.order(0, 2), BAD);
        Due.same("best -1", x.best(-1), BAD);
        Due.same("best 4", x.best(4), BAD);
        HandToHand five = Tape.told("piece 1;hand 1;hand 1;hand 1;hand 1;hand 1;");
        Due.same("order 1 of five", five.stands(1, 3) * 10 + five.stands(1, 4), 43);
        Due.same("order 24 of five", five.stands(24, 0) * 10 + five.stands(24, 1), 10);
        Due.same("order 119 of five", five.stands(119, 0) * 10 + five.stands(119, 4), 40);

        // An order is as if its hands had been told so, the ends staying where they are.
        HandToHand told = Tape.told("piece 2;piece 1;hand 1 4;hand 3 1;fixed 1;walk 1;");
        HandToHand turned = Tape.told("piece 2;piece 1;hand 3 1;hand 1 4;fixed 1;walk 1;");
        Due.same("order 0", told.order(0, 0) * 100 + told.order(0, 1), told.makes(0) * 100 + told.makes(1));
        Due.same("order 1", told.order(1, 0) * 100 + told.order(1, 1), turned.makes(0) * 100 + turned.makes(1));
        // Told: 2 ticks at piece 0, then 1 and 2 ticks back: a coat each 3; turned: 6 at piece 0, 4 and 2 back.
        Due.same("told makes", told.order(0, 0) * 100 + told.order(0, 1), 103);
        Due.same("turned makes", told.order(1, 0) * 100 + told.order(1, 1), 106);
        Due.same("best of told", told.best(0), 0);
        Due.same("best of turned", turned.best(0), 1);
        Due.same("what it makes", turned.best(1) * 100 + turned.best(2), 103);
        Due.same("all have rings", turned.best(3), 0);
        Due.same("of several the first", five.best(0), 0);
        HandToHand none = Tape.told("piece 1;hand 9;hand 8;learn 99;");
        Due.same("no order has a ring", none.best(3), 2);
        Due.same("the first of none", none.best(0), 0);
        Due.same("0 by 1", none.best(1) * 10 + none.best(2), 1);
        turned.setPace(0, 0, 1);
        turned.setPace(0, 1, 1);
        turned.setPace(1, 0, 1);
        turned.setPace(1, 1, 1);
        Due.same("found anew", turned.best(0), 0);
    }

    // Promise 30
    private static void parts() {
        // Ends 1, 2, 3: hand 0 needs 1, 3, 5 ticks, hand 1 5, 3, 1.
        HandToHand x = Tape.told("piece 1;piece 1;piece 1;piece 1;hand 1 2 2 1;hand 1 2 2 1;");
        Due.same("parts", x.parts(0) * 10 + x.parts(1), 13);
        Due.same("its end", x.parts(10), 2);
        Due.same("the last has none", x.parts(11), BAD);
        for (int what : new int[] {-1, 2, 9, 12, LOW, HIGH}) {
            Due.same("parts " + what, x.parts(what), BAD);
        }
        // All ends make a coat by the 4 ticks of the last piece: the first is told.
        HandToHand y = Tape.told("piece 1;piece 1;piece 1;hand 1 1 1;hand 1 1 6;");
        Due.same("of several the first", y.parts(1) * 10 + y.parts(10), 62);
        HandToHand z = Tape.told("piece 1;piece 0;piece 1;hand 1 1 1;hand 1 1 1;");
        Due.same("the first of two alike", z.parts(1) * 10 + z.parts(10), 11);
        HandToHand w = Tape.told("piece 1;hand 1;hand 1;");
        Due.same("fewer pieces than hands", w.parts(0), NONE);
        Due.same("the end of fewer", w.parts(10), NONE);
        Due.same("BAD first", w.parts(11), BAD);
        HandToHand one = Tape.told("piece 2;hand 4;");
        Due.same("alone", one.parts(0) * 10 + one.parts(1), 18);
        Due.same("alone she has no end", one.parts(10), BAD);
        HandToHand all = Tape.told("piece 1;piece 1;piece 1;hand 1 1 1;hand 1 1 1;hand 1 1 1;zone 2 2;");
        Due.same("as many as pieces", all.parts(10) * 10 + all.parts(11), 12);
        Due.same("a coat a tick", all.parts(0) * 10 + all.parts(1), 11);
        Due.same("the rule stays", all.rule(4) * 100 + all.rule(20) * 10 + all.rule(21), 122);
        HandToHand none = Tape.told("piece 1;piece 1;piece 1;hand 9 9 9;hand 9 9 9;learn 99;");
        Due.same("without a ring", none.parts(0) * 100 + none.parts(1) * 10 + none.parts(10), 11);
    }

    private static void lessIs(String text, int hand, String without) {
        HandToHand x = Tape.told(text);
        HandToHand y = Tape.told(without);
        Due.same("less " + hand + " of " + text, x.less(hand, 0) * 1000 + x.less(hand, 1), y.makes(0) * 1000 + y.makes(1));
    }

    // Promise 31
    private static void less() {
        String pieces = "piece 2;piece 3;piece 1;piece 2;walk 2;";
        String[] hands = {"hand 3 4 5 2;", "hand 2 2 1 7;", "hand 1 5 2 2;"};
        String all = pieces + hands[0] + hands[1] + hands[2];
        for (String rule : new String[] {"zone ", "fixed "}) {
            lessIs(all + rule + "1 3;", 0, pieces + hands[1] + hands[2] + rule + "3;");
            lessIs(all + rule + "1 3;", 1, pieces + hands[0] + hands[2] + rule + "1;");
            lessIs(all + rule + "1 3;", 2, pieces + hands[0] + hands[1] + rule + "1;");
        }
        lessIs(all, 1, pieces + hands[0] + hands[2]);
        lessIs(FIXED_PARTS, 0, "piece 1;piece 1;hand 1 1;");
        lessIs(FIXED_PARTS, 1, "piece 1;piece 1;hand 2 2;");
        HandToHand x = Tape.told(FIXED_PARTS);
        Due.same("alone with 1", x.less(0, 0) * 10 + x.less(0, 1), 12);
        Due.same("alone with 0", x.less(1, 0) * 10 + x.less(1, 1), 14);
        Due.same("all are there still", x.rule(1), 2);
        Due.same("less -1", x.less(-1, 0), BAD);
        Due.same("less 2", x.less(2, 0), BAD);
        Due.same("less what -1", x.less(0, -1), BAD);
        Due.same("less what 2", x.less(0, 2), BAD);
        HandToHand one = Tape.told(LEARNER);
        Due.same("she is alone", one.less(0, 0), STATE);
        Due.same("BAD first", one.less(0, 2), BAD);
        Due.same("nor is 1 there", one.less(1, 0), BAD);
    }

    // Promises 32 and 33
    private static void sheets() {
        HandToHand x = new HandToHand();
        Due.same("sheet -1", x.sheet(-1, 0, 1), BAD);
        Due.same("sheet 4", x.sheet(4, 0, 1), BAD);
        Due.same("lane -1", x.sheet(0, -1, 1), BAD);
        Due.same("lane 3", x.sheet(0, 3, 1), BAD);
        Due.same("41 cells", x.sheet(0, 0, 41), BAD);
        Due.same("-1 cells", x.sheet(0, 0, -1), -14);
        Due.same("lowest cells", x.sheet(0, 0, LOW), -14);
        Due.same("highest cells", x.sheet(0, 0, HIGH), BAD);
        Due.same("BAD ahead of SIZE", x.sheet(4, 0, -1), BAD);
        Due.same("BAD ahead of SIZE, lane", x.sheet(0, 3, -1), BAD);
        Due.same("still nothing", x.count(2), NONE);
        Due.same("40 cells", x.sheet(0, 0, 40), 1);
        Due.same("40 there are", x.count(2), 40);
        Due.same("the last cell", x.lay(0, 39, 1), 1);
        Due.same("beyond the last", x.lay(0, 40, 1), -12);
        Due.same("ahead of the first", x.lay(0, -1, 1), -12);
        Due.same("lowest cell", x.lay(0, LOW, 1), -12);
        Due.same("highest cell", x.lay(0, HIGH, 1), -12);
        Due.same("lay on -1", x.lay(-1, 0, 1), BAD);
        Due.same("lay on 4", x.lay(4, 0, 1), BAD);
        Due.same("lay on nothing", x.lay(3, 0, 1), -11);
        Due.same("lay on nothing, no cell", x.lay(3, -1, 1), -11);
        Due.same("refused, it stays", x.sheet(0, 0, -1), -14);
        Due.same("40 there are still", x.count(2), 40);
        Due.same("no cells", x.sheet(0, 2, 0), 1);
        Due.same("none there are", x.count(2), 0);
        Due.same("lay on no cells", x.lay(0, 0, 1), -12);

        // 259 is 3 in a byte, 65541 is 5 in a short, an int has it all.
        HandToHand y = Tape.told("piece 1;hand 9;");
        for (int lane = 0; lane < 3; lane++) {
            y.sheet(lane, lane, 1);
        }
        y.lay(0, 0, 259);
        Due.same("a byte", y.read(0, 0, 0, 0, 1) * 10 + y.pace(0, 0), 13);
        y.lay(0, 0, 130);
        Due.same("a byte below 0", y.read(0, 0, 0, 0, 1), -20);
        y.lay(1, 0, 65541);
        Due.same("a short", y.read(1, 1, 0, 0, 1) * 10 + y.pace(0, 0), 15);
        y.lay(1, 0, 259);
        Due.same("259 in a short", y.read(1, 1, 0, 0, 1), -20);
        y.lay(2, 0, 65541);
        Due.same("65541 in an int", y.read(2, 2, 0, 0, 1), -20);
        y.lay(2, 0, 7);
        Due.same("an int", y.read(2, 2, 0, 0, 1) * 10 + y.pace(0, 0), 17);
        y.sheet(2, 2, 1);
        Due.same("a new row is of 0", y.read(2, 2, 0, 0, 1), -20);
    }

    private static HandToHand withSheet(int cells) {
        HandToHand x = Tape.told("piece 1;piece 1;hand 9 9;hand 9 9;hand 9 9;");
        x.sheet(1, 1, cells);
        for (int i = 0; i < cells; i++) {
            x.lay(1, i, i % 9 + 1);
        }
        return x;
    }

    private static int pacesOf(HandToHand x) {
        int all = 0;
        for (int h = 0; h < 3; h++) {
            all = all * 100 + x.pace(h, 0) * 10 + x.pace(h, 1);
        }
        return all;
    }

    // Promises 34 and 35
    private static void reading() {
        HandToHand x = withSheet(6);
        Due.same("all", x.read(1, 1, 0, 0, 3), 3);
        Due.same("paces", pacesOf(x), 123456);
        Due.same("no fault", x.torn(), 0);
        Due.same("from cell 2, from hand 1", x.read(1, 1, 2, 1, 2), 2);
        Due.same("paces 2", pacesOf(x), 123456);
        Due.same("from cell 3", x.read(1, 1, 3, 0, 2), 1);
        Due.same("a fault", x.torn(), 2);
        Due.same("the whole one is told", pacesOf(x), 453456);
        Due.same("of none, no fault", x.read(0, 0, -5, 3, 0), 0);
        Due.same("none", x.torn(), 0);
        Due.same("nothing", x.read(0, 1, 0, 0, 1), 0);
        Due.same("is NULL", x.torn(), 1);
        Due.same("another lane", x.read(1, 2, 0, 0, 1), 0);
        Due.same("is CAST", x.torn(), 3);
        Due.same("ahead of CELL 0", x.read(1, 1, -1, 0, 1), 0);
        Due.same("is INDEX", x.torn(), 2);
        Due.same("CAST is ahead of INDEX", x.read(1, 0, -1, 0, 1) + x.torn(), 3);
        Due.same("NULL is ahead of INDEX", x.read(2, 0, -1, 0, 1) + x.torn(), 1);
        Due.same("lowest cell", x.read(1, 1, LOW, 0, 3) + x.torn(), 2);
        Due.same("highest cell", x.read(1, 1, HIGH, 0, 3) + x.torn(), 2);
        Due.same("beyond the last", x.read(1, 1, 6, 0, 3) + x.torn(), 2);
        Due.same("the last cell alone is not whole", x.read(1, 1, 5, 0, 3) + x.torn(), 2);
        Due.same("paces stay", pacesOf(x), 453456);

        refusedReads(x);
        badPaces();
        HandToHand five = Tape.told("piece 1;hand 1;hand 1;hand 1;hand 1;hand 1;");
        five.sheet(0, 0, 5);
        for (int i = 0; i < 5; i++) {
            five.lay(0, i, 9 - i);
        }
        Due.same("five hands", five.read(0, 0, 0, 0, 5), 5);
        Due.same("the first and the last of five", five.pace(0, 0) * 10 + five.pace(4, 0), 95);
        HandToHand y = Tape.told("piece 1;hand 1;");
        y.sheet(0, 0, 1);
        y.lay(0, 0, 4);
        Due.same("makes 1", y.makes(1), 1);
        y.go(5);
        y.keep(0);
        y.read(0, 0, 0, 0, 1);
        Due.same("makes 4", y.makes(1), 4);
        Due.same("the bench stays", y.now(0), 5);
        Due.same("images stay", y.count(0), 1);
    }

    private static void refusedReads(HandToHand x) {
        x.read(1, 2, 0, 0, 1);
        int[][] bad = {{-1, 1, 0, 0, 1}, {4, 1, 0, 0, 1}, {1, -1, 0, 0, 1}, {1, 3, 0, 0, 1}, {1, 1, 0, -1, 1},
            {1, 1, 0, 3, 1}, {1, 1, 0, 2, 2}, {1, 1, 0, 0, 4}, {1, 1, 0, 0, -1}, {1, 1, 0, 0, 6}, {1, 1, 0, 4, 0},
            {1, 1, 0, HIGH, 1}, {1, 1, 0, 1, HIGH}, {1, 1, 0, HIGH, HIGH}, {1, 1, 0, LOW, 1}, {1, 1, 0, 0, LOW}};
        for (int[] b : bad) {
            Due.same("read of " + java.util.Arrays.toString(b), x.read(b[0], b[1], b[2], b[3], b[4]), BAD);
            Due.same("torn stays", x.torn(), 3);
        }
    }

    private static void badPaces() {
        HandToHand x = withSheet(6);
        x.lay(1, 3, 10);
        Due.same("the second is bad", x.read(1, 1, 0, 0, 3), -21);
        Due.same("none is told", pacesOf(x), 999999);
        Due.same("the first is bad, from hand 1", x.read(1, 1, 2, 1, 2), -20);
        Due.same("a hand that is not whole is not bad", x.read(1, 1, 3, 0, 2), -20);
        x.lay(1, 3, 4);
        x.lay(1, 5, 0);
        Due.same("cells 1 to 4 are whole", x.read(1, 1, 1, 0, 3), 2);
        Due.same("and told", pacesOf(x), 234599);
        Due.same("the third is torn", x.torn(), 2);
        Due.same("the third is bad", x.read(1, 1, 0, 0, 3), -22);
        Due.same("torn stays", x.torn(), 2);
        x.lay(1, 0, -1);
        Due.same("the first met", x.read(1, 1, 0, 0, 3), -20);
        x.lay(1, 4, 0);
        Due.same("a bad one ahead of a torn one", x.read(1, 1, 4, 0, 3), -20);
        Due.same("paces stay", pacesOf(x), 234599);
    }

    // Promise 36
    private static void counting() {
        HandToHand x = new HandToHand();
        Due.same("images", x.count(0), 0);
        Due.same("bytes", x.count(1), 0);
        Due.same("cells", x.count(2), NONE);
        Due.same("orders", x.count(3), 6);
        Due.same("count -1", x.count(-1), BAD);
        Due.same("count 4", x.count(4), BAD);
        x.keep(1);
        x.keep(1);
        Due.same("one image", x.count(0), 1);
        x.feed(0);
        x.end(5);
        Due.same("5 bytes", x.count(1), 5);
        x.sheet(1, 0, 7);
        Due.same("sheet 1 is not sheet 0", x.count(2), NONE);
        x.sheet(0, 0, 7);
        Due.same("7 cells", x.count(2), 7);
        StringBuilder text = new StringBuilder("piece 1;");
        int all = 1;
        for (int h = 1; h <= 5; h++) {
            text.append("hand 1;");
            all *= h;
            Due.same("orders of " + h, Tape.told(text.toString()).count(3), all);
        }
    }
}
