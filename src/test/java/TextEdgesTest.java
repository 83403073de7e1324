/** The tape, the text and what it tells: each sentence of the document that names an edge, one by one. */
public final class TextEdgesTest {
    private static final int BAD = HandToHand.BAD, STATE = HandToHand.STATE, FULL = HandToHand.FULL, NONE = HandToHand.NONE;
    private static final int LOW = Integer.MIN_VALUE, HIGH = Integer.MAX_VALUE;
    private static final int TAPE = 400;
    private static final String BEFORE = "piece 4;hand 7;walk 3;";

    private TextEdgesTest() {
    }

    public static void main(String[] args) {
        answers();
        newObject();
        pieces();
        units();
        sorts();
        rows();
        hands();
        walkAndLearn();
        tapeAndPlaces();
        tokens();
        bytes();
        lines();
        firstFault();
        faultOne();
        faultTwo();
        faultThree();
        faultFour();
        faultFive();
        faultsBehindAll();
        howManyNumbers();
        whatATextTells();
        asInANewObject();
        feed();
        end();
        text();
        rule();
        unitsCall();
        pace();
        setPace();
        Due.end();
    }

    private static String times(int n, String what) {
        return what.repeat(n);
    }

    private static HandToHand taken(String text, int lines) {
        HandToHand x = new HandToHand();
        Due.same("lines of: " + text, Tape.tell(x, text), lines);
        Due.same("fault of: " + text, x.fault(), 0);
        Due.same("the tape is empty behind: " + text, x.count(1), 0);
        return x;
    }

    private static void refused(String text, int fault, int place) {
        HandToHand x = new HandToHand();
        Tape.tell(x, BEFORE);
        String told = Look.told(x);
        Due.same("place of: " + text, Tape.tell(x, text), -10 - place);
        Due.same("fault of: " + text, x.fault(), fault);
        Due.same("the tape is empty behind: " + text, x.count(1), 0);
        Due.same("what was told stays behind: " + text, Look.told(x), told);
    }

    private static void refusedAtEnd(String text, int fault) {
        refused(text, fault, text.length());
    }

    // ---- answers

    private static void answers() {
        Due.about("Answers: BAD -1 (a number is not as told, there is no such PIECE, HAND, SORT, IMAGE, SHEET), STATE -2 (as told),"
            + " FULL -3, NONE -4 (there is none)");
        Due.same("BAD", BAD, -1);
        Due.same("STATE", STATE, -2);
        Due.same("FULL", FULL, -3);
        Due.same("NONE", NONE, -4);
        HandToHand x = taken("piece 1;hand 1;hand 1;", 3);
        Due.same("no such PIECE", x.pace(0, 1), BAD);
        Due.same("no such HAND", x.pace(2, 0), BAD);
        Due.same("no such SORT", x.units(3, 0), BAD);
        Due.same("no such IMAGE", x.back(2), BAD);
        Due.same("no such SHEET", x.lay(4, 0, 0), BAD);
        Due.same("there is none", x.count(2), NONE);

        Due.about("What is numbered has its numbers from 0 on, as it comes, where nothing else is told.");
        HandToHand y = taken("piece 4;piece 5;hand 1 2;hand 3 4;row 2 1;", 5);
        Due.same("PIECES", y.units(0, 0) * 10 + y.units(0, 1), 45);
        Due.same("HANDS", y.pace(0, 0) * 10 + y.pace(1, 1), 14);
        Due.same("places of the row", y.rule(10) * 10 + y.rule(11), 21);
        Due.same("HANDINGS OVER", y.over(1, 0, 0), 0);
        Due.same("below 0", y.units(0, -1) + y.pace(-1, 0) + y.rule(9) + y.over(1, -1, 0), 4 * BAD);
        Due.same("beyond", y.units(0, 2) + y.pace(2, 0) + y.rule(12) + y.units(3, 0), 4 * BAD);
    }

    private static void newObject() {
        Due.about("As told at first; SHEETS have nothing.");
        HandToHand x = new HandToHand();
        HandToHand y = taken("piece 2;piece 2;piece 2;hand 3 3 3;hand 2 2 2;hand 1 1 1;row 0;", 7);
        Due.same("as if it had been told", Look.all(x), Look.all(y));
        Due.same("as if it had been found", Look.found(x), Look.found(y));
        Due.same("sheets", Look.row(3, k -> x.lay(k, 0, 1)), "-11 -11 -11 -11");
        Due.same("images", x.back(0) * 10 + x.back(1), STATE * 11);
    }

    // ---- what may be told

    private static void pieces() {
        Due.about("PIECES 0 to n - 1 (n 1 to 8)");
        HandToHand one = taken("piece 1;hand 1;", 2);
        Due.same("one piece", one.rule(0), 1);
        Due.same("it is 0", one.pace(0, 0), 1);
        Due.same("there is no 1", one.pace(0, 1), BAD);
        HandToHand eight = taken(times(8, "piece 1;") + "hand 1 2 3 4 5 6 7 8;", 9);
        Due.same("eight pieces", eight.rule(0), 8);
        Due.same("the last is 7", eight.pace(0, 7), 8);
        Due.same("there is no 8", eight.pace(0, 8), BAD);
        Due.same("all of them are made", eight.run(1, 0), 36);
        refused(times(9, "piece 1;") + "hand 1 1 1 1 1 1 1 1 1;", 5, 64);

        Due.about("WHOLE ones can not be left midway");
        // Hand 0 has done unit 0 at 6; hand 1 is ready from 2 on.
        HandToHand whole = taken("piece 2;whole 0;hand 5;hand 1;", 4);
        whole.go(6);
        Due.same("she makes it herself", Look.hands(whole), "works 0.1 for 5, ready");
        HandToHand not = taken("piece 2;hand 5;hand 1;", 3);
        not.go(6);
        Due.same("it is left", Look.hands(not), "works 0.0 for 5, works 0.1 for 1");
        HandToHand eighth = taken(times(8, "piece 2;") + "whole 7;whole 0;hand 1 1 1 1 1 1 1 1;", 11);
        Due.same("the first and the last are whole", eighth.rule(5), 129);
    }

    private static void units() {
        Due.about("of each PIECE so many UNITS (0 to 6; PIECES of 0 are left out; some PIECE has some)");
        HandToHand x = taken("piece 0;piece 6;hand 1 1;", 3);
        Due.same("least", x.units(0, 0), 0);
        Due.same("most", x.units(0, 1), 6);
        Due.same("the first piece is left out", Look.hands(x), "works 1.0 for 1");
        Due.same("six units are made", x.run(1, 0), 6);
        refused("piece 7;hand 1;", 3, 6);

        HandToHand between = taken("piece 1;piece 0;piece 0;piece 1;hand 2 9 9 3;", 5);
        between.go(2);
        Due.same("pieces between are left out", Look.hands(between), "works 3.0 for 3");
        HandToHand last = taken("piece 1;piece 0;piece 0;hand 2 9 9;", 4);
        Due.same("the last ones are left out", last.go(2), 1);
        HandToHand sorts = taken("piece 1;piece 1;piece 1;sort 1 0 1 0;row 1;hand 2 3 4;", 6);
        Due.same("of another sort others are", Look.hands(sorts), "works 1.0 for 3");
        Due.same("and behind it there is none", sorts.go(3), 1);
        refusedAtEnd("piece 0;piece 0;hand 1 1;", 7);
    }

    private static void sorts() {
        Due.about("SORTS of coats 0 to 2");
        HandToHand x = taken("piece 1;sort 1 2;sort 2 3;row 0 1 2;hand 1;", 5);
        Due.same("units", Look.row(3, s -> x.units(s, 0)), "1 2 3 -1");
        refused("piece 1;row 3;hand 1;", 3, 12);
        refused("piece 1;sort 3 1;hand 1;", 3, 13);
    }

    private static void rows() {
        Due.about("A ROW of SORTS (1 to 6 of them), told again and again, says of which SORT the next new coat is.");
        HandToHand one = taken("piece 1;row 2;hand 1;", 3);
        Due.same("one", one.rule(6) * 10 + one.rule(10), 12);
        one.go(3);
        Due.same("again", one.hand(0, 4) * 10 + one.now(4), 20);
        HandToHand six = taken("piece 1;row 2 0 1 1 0 2;hand 1;", 3);
        Due.same("six", six.rule(6), 6);
        int[] row = {2, 0, 1, 1, 0, 2};
        for (int i = 0; i < 15; i++) {
            Due.same("sort of coat " + i, six.hand(0, 4), row[i % 6]);
            Due.same("the next place behind coat " + i, six.now(4), (i + 1) % 6);
            six.go(1);
        }
        refused("piece 1;row;hand 1;", 2, 11);
        refused("piece 1;row 2 0 1 1 0 2 0;hand 1;", 5, 24);
    }

    private static void hands() {
        Due.about("HANDS 0 to h - 1 (h 1 to 5), each with a PACE for each PIECE: TICKS for a UNIT (1 to 9).");
        HandToHand one = taken("piece 1;hand 9;", 2);
        Due.same("one hand", one.rule(1), 1);
        Due.same("the highest pace", one.takes(0, 0), 9);
        Due.same("there is no hand 1", one.pace(1, 0), BAD);
        HandToHand five = taken("piece 1;hand 1;hand 2;hand 3;hand 4;hand 5;", 6);
        Due.same("five hands", Look.row(5, h -> five.pace(h, 0)), "1 2 3 4 5 -1");
        Due.same("a unit takes", five.run(1, 0), 5);
        refused("piece 1;hand 0;", 3, 13);
        refused("piece 1;hand 10;", 3, 13);
        refused("piece 1;" + times(6, "hand 1;"), 5, 43);
    }

    private static void walkAndLearn() {
        Due.about("WALK: TICKS for a PIECE of way back (0 to 5; 0).");
        Due.same("at first", taken("piece 1;hand 1;", 2).rule(2), 0);
        Due.same("least", taken("piece 1;hand 1;walk 0;", 3).rule(2), 0);
        Due.same("most", taken("piece 1;hand 1;walk 5;", 3).rule(2), 5);
        refused("piece 1;hand 1;walk 6;", 3, 20);

        Due.about("LEARN: 0 (none), or of so many UNITS of a PIECE done by a HAND (1 to 99) her PACE there is one less,"
            + " of twice as many two less, and so on, 1 at least.");
        Due.same("at first", taken("piece 1;hand 1;", 2).rule(3), 0);
        Due.same("none", taken("piece 1;hand 1;learn 0;", 3).rule(3), 0);
        refused("piece 1;hand 1;learn 100;", 1, 21);
        HandToHand none = taken("piece 1;hand 2;learn 0;", 3);
        none.go(2 * 300);
        Due.same("nothing is learnt", none.takes(0, 0), 2);
        HandToHand one = taken("piece 1;hand 4;learn 1;", 3);
        Due.same("with each unit", Look.row(5, i -> one.takes(0, 0) * 10 + one.go(one.takes(0, 0))), "41 31 21 11 11 11");
        HandToHand most = taken("piece 1;hand 3;learn 99;", 3);
        most.go(3 * 98);
        Due.same("98 units", most.learnt(0, 0) * 10 + most.takes(0, 0), 983);
        most.go(3);
        Due.same("99 units", most.learnt(0, 0) * 10 + most.takes(0, 0), 992);
        most.go(2 * 98);
        Due.same("197 units", most.learnt(0, 0) * 10 + most.takes(0, 0), 1972);
        most.go(2);
        Due.same("198 units", most.learnt(0, 0) * 10 + most.takes(0, 0), 1981);
        most.go(99);
        Due.same("297 units", most.learnt(0, 0) * 10 + most.takes(0, 0), 2971);
        // She is by 5 at piece 1, whatever she has learnt at piece 0; so is hand 0, who has done nothing there.
        HandToHand two = taken("piece 2;piece 1;hand 5 5;learn 2;", 4);
        two.go(10);
        Due.same("of a piece", two.takes(0, 0) * 10 + two.takes(0, 1), 45);
        HandToHand other = taken("piece 2;hand 5;hand 5;learn 1;", 4);
        other.go(5);
        Due.same("by a hand", other.takes(0, 0) * 10 + other.takes(1, 0), 54);
    }

    // ---- the tape, tokens

    private static void tapeAndPlaces() {
        Due.about("THE TAPE has 400 bytes, places from 0.");
        String text = "piece 1;hand 1;walk 5;";
        HandToHand x = taken(times(TAPE - text.length(), " ") + text, 3);
        Due.same("the last byte is read", x.rule(2), 5);
        refused("?" + times(TAPE - 1, " "), 1, 0);
        refused(text + times(TAPE - text.length() - 1, " ") + "?", 1, 399);
        refused(text + times(TAPE - text.length() - 1, " ") + ";", 2, 399);
        refused(text + times(TAPE - text.length() - 5, " ") + "learn", 2, 400);
        refused(text + times(TAPE - text.length() - 4, " ") + "lear", 1, 396);
        refused(text + times(TAPE - text.length() - 7, " ") + "learn 9", 2, 400);
        refused(text + times(TAPE - text.length() - 8, " ") + "learn999", 1, 397);
        refused(times(TAPE, " "), 6, 400);
    }

    private static void tokens() {
        Due.about("TOKENS, each as long as may be");
        refused("piecepiece 1;", 1, 0);
        refused("walk12;", 3, 4);
        refused("walk123;", 1, 4);
        refused("walk 5a;", 1, 6);
        refused(" backb;", 1, 1);

        Due.about("any number of blanks (32) ahead of, between, behind them");
        taken("     piece    1    ;    hand    1    ;     ", 2);
        taken("piece 1;hand 1;" + times(300, " "), 2);
        taken(times(300, " ") + "piece 1;hand 1;", 2);
        taken("piece " + times(300, " ") + "1;hand 1;", 2);

        Due.about("(one at least between two NAMES, between two NUMBERS; else none is needed)");
        taken("piece1;hand1;", 2);
        taken("piece1;piece1;hand1 1;hand1 1;zone1;whole0;row0 1;", 7);
        HandToHand x = taken("piece1;piece1;hand1 2;", 3);
        Due.same("two numbers", x.pace(0, 0) * 10 + x.pace(0, 1), 12);
        refused("piece1;piece1;hand12;", 3, 18);
        refused("backwalk 1;", 1, 0);
        refused("back walk 1;", 2, 5);

        Due.about("NUMBERS (1 or 2 figures)");
        Due.same("one figure", taken("piece 1;hand 1;learn 7;", 3).rule(3), 7);
        Due.same("two figures", taken("piece 1;hand 1;learn 70;", 3).rule(3), 70);
        Due.same("0 ahead", taken("piece 01;hand 09;learn 07;", 3).rule(3), 7);
        Due.same("00", taken("piece 1;hand 1;learn 00;", 3).rule(3), 0);
        refused("piece 001;", 1, 6);
        refused("learn 099;", 1, 6);
    }

    private static void bytes() {
        Due.about("NAMES (a .. z), NUMBERS (1 or 2 figures), the sign ; (every other byte is no TOKEN)");
        for (int b = 0; b < 256; b++) {
            String text = "piece" + (char) b + "1;hand1;";
            if (b == ' ' || b == '0') {
                taken(text, 2);
            } else if (b >= 'a' && b <= 'z') {
                refused(text, 1, 0);
            } else if (b >= '1' && b <= '9') {
                refused(text, 3, 5);
            } else {
                refused(text, b == ';' ? 2 : 1, 5);
            }
        }
        for (int b = 0; b < 256; b++) {
            boolean figure = b >= '0' && b <= '9';
            if (b == ' ') {
                refused(" ", 6, 1);
            } else {
                refused(Character.toString((char) b), figure || b == ';' ? 2 : 1, 0);
            }
            if (!figure && b != ';' && b != ' ') {
                refused("walk 1" + (char) b, 1, 6);
            }
        }
    }

    // ---- lines

    private static void lines() {
        Due.about("text: { line }");
        taken("piece 1;hand 1;", 2);
        refusedAtEnd("", 6);
        Due.same("25 lines", Tape.tell(new HandToHand(), times(8, "piece 1;") + "whole 0;whole 1;whole 2;whole 3;whole 4;whole 5;whole 6;"
            + "whole 7;sort 1 1 1 1 1 1 1 1 1;sort 2 1 1 1 1 1 1 1 1;row 0;walk 0;learn 0;" + times(3, "hand 1 1 1 1 1 1 1 1;") + "back;"), 25);

        Due.about("line: piece N ; | whole N ; | sort N { N } ; | row N { N } ; | hand { N } ; | walk N ; | learn N ; | back ;"
            + " | zone { N } ; | fixed { N } ;");
        HandToHand all = taken("piece 3;whole 0;sort 2 4;sort 1 5;row 1 2;hand 6;hand 7;walk 2;learn 8;fixed 1;", 10);
        Due.same("all", Look.told(all), "1 2 2 8 2 1 2 -1 -1 -1 1 2 -1 -1 -1 -1 -1 -1 -1 -1 1 1 -1 -1 -1 / 3 / 5 / 4 / 6 / 7");
        Due.same("zone", taken("piece 1;hand 1;hand 1;zone 1;", 4).rule(4), 1);
        Due.same("back", taken("piece 1;hand 1;hand 1;back;", 4).rule(4), 0);
        // In any order, where nothing else is told.
        taken("learn 8;walk 2;row 1 2;piece 3;whole 0;piece 1;whole 1;sort 1 5 5;hand 6 6;sort 2 4 4;zone;", 11);

        Due.about("piece: UNITS of SORT 0 (0 to 6).");
        Due.same("0", taken("piece 0;piece 1;hand 1 1;", 3).units(0, 0), 0);
        Due.same("6", taken("piece 6;hand 1;", 2).units(0, 0), 6);
        refused("piece 7;", 3, 6);

        Due.about("whole: a PIECE told ahead.");
        Due.same("the latest", taken("piece 1;piece 1;whole 1;hand 1 1;", 4).rule(5), 2);
        refused("whole 0;piece 1;hand 1;", 3, 6);
        refused("piece 1;whole 1;piece 1;hand 1 1;", 3, 14);

        Due.about("sort: 1 or 2, then UNITS of all PIECES (at first as of SORT 0, when all is told).");
        refused("piece 1;sort 0 1;", 3, 13);
        refused("piece 1;sort 3 1;", 3, 13);
        HandToHand first = taken("piece 4;piece 5;sort 2 0 6;hand 1 1;", 4);
        Due.same("sort 1 is as sort 0", first.units(1, 0) * 10 + first.units(1, 1), 45);
        Due.same("sort 2 is as told", first.units(2, 0) * 10 + first.units(2, 1), 6);
        refused("piece 1;sort 1 7;", 3, 15);

        Due.about("row: SORTS (0 at first).");
        HandToHand row = taken("piece 1;hand 1;", 2);
        Due.same("at first", row.rule(6) * 100 + row.rule(10) * 10 + row.rule(11), 99);
        Due.same("2 is the last sort", taken("piece 1;hand 1;row 2;", 3).rule(10), 2);
        refused("row 3;", 3, 4);
        // A sort that no line tells may be in the row, also ahead of the pieces.
        taken("row 2 1;piece 1;hand 1;", 3);

        Due.about("hand: PACES of all PIECES.");
        HandToHand paces = taken("piece 1;piece 0;piece 1;hand 1 9 2;", 4);
        Due.same("of those without units, too", Look.row(3, p -> paces.pace(0, p)), "1 9 2 -1");
        refused("piece 1;piece 0;piece 1;hand 1 2;", 2, 32);
        refused("piece 1;piece 0;piece 1;hand 1 9 2 1;", 2, 35);

        Due.about("zone, fixed: ENDS (1 to n) of all HANDS but the last, none below the one ahead.");
        String three = "piece 1;piece 1;hand 1 1;hand 1 1;hand 1 1;";
        for (String rule : new String[] {"zone ", "fixed"}) {
            HandToHand least = taken(three + rule + " 1 1;", 6);
            Due.same("least", least.rule(20) * 100 + least.rule(21) * 10 + least.rule(22), 112);
            HandToHand most = taken(three + rule + " 2 2;", 6);
            Due.same("most", most.rule(20) * 100 + most.rule(21) * 10 + most.rule(22), 222);
            refused(three + rule + " 0 1;", 3, 49);
            refused(three + rule + " 3 3;", 3, 49);
            refused(three + rule + " 1 3;", 3, 51);
            refused(three + rule + " 1 0;", 3, 51);
            refused(three + rule + " 2 1;", 3, 51);
        }
    }

    // ---- faults

    private static void firstFault() {
        Due.about("FAULTS, the first met as it is read (a TOKEN is read when the one before has been taken)");
        refused("piece 7?", 3, 6);
        refused("piece 7;?", 3, 6);
        refused("walk 1;walk?", 4, 7);
        refused("walk 1;walk 100;", 4, 7);
        refused("piece 1;hand 1;fixed;piece?", 5, 21);
        refused("back;zone coat;", 4, 5);
        refused("sort 3 coat;", 3, 5);
        refused("row 0 3 100;", 3, 6);
        refused("row 0 1 2 0 1 2 0 ?", 5, 16);
        refused("piece 1;whole 0;whole 0?", 4, 22);
        refused("1?", 2, 0);
        refused("piece;?", 2, 5);
        refused("?;walk 9;", 1, 0);
        refused("piece 1;hand 0;walk 9;", 3, 13);
        // Faults of what is told at all come behind those of its bytes.
        refused("walk 9;", 3, 5);
        refused("piece 0;?", 1, 8);
        // What an unfinished number could be is not known ahead of the blank behind it.
        refused("piece 1;piece 1;hand 1 99", 3, 23);
    }

    private static void faultOne() {
        Due.about("1 no TOKEN, a NAME that is none of these, a NUMBER that is too long (its first byte).");
        refused("  ?  ", 1, 2);
        refused("piece 1;  Hand 1;", 1, 10);
        refused("piece 1;  coat 1;", 1, 10);
        refused("piece 1;  hands 1;", 1, 10);
        refused("piece 1;  han 1;", 1, 10);
        refused("piece 1; hand  123;", 1, 15);
        refused("piece 1; hand  000000001;", 1, 15);
        // Also where a number, or the end of a line, ought to be.
        refused("piece coat;", 1, 6);
        refused("walk 1 coat;", 1, 7);
        refused("walk 1 100;", 1, 7);
        refused("row 0 coat;", 1, 6);
        refused("100 piece;", 1, 0);
        // Nothing is read behind it.
        refused("walk 100 ?;", 1, 5);
        refused("walk coat coat;", 1, 5);
        refused("piece 1;hand 123 ?;", 1, 13);
        refused("row 0 123 ?;", 1, 6);
        for (String name : new String[] {"piece", "whole", "sort", "row", "hand", "walk", "learn", "back", "zone", "fixed"}) {
            refused(name + "s;", 1, 0);
            refused("s" + name + ";", 1, 0);
            refused(name.substring(1) + ";", 1, 0);
            refused(name.substring(0, name.length() - 1) + ";", 1, 0);
            refused(name.toUpperCase() + ";", 1, 0);
            for (int i = 0; i < name.length(); i++) {
                refused(name.substring(0, i) + "q" + name.substring(i + 1) + ";", 1, 0);
            }
        }
    }

    private static void faultTwo() {
        Due.about("2 a TOKEN that can not stand there (or the end: the length).");
        refused(";", 2, 0);
        refused("7", 2, 0);
        refused("piece 1;;", 2, 8);
        refused("piece 1;7;", 2, 8);
        for (String name : new String[] {"piece", "whole", "sort", "row", "walk", "learn"}) {
            refused(name + " ;", 2, name.length() + 1);
            refused(name + " back", 2, name.length() + 1);
            refusedAtEnd(name, 2);
            refusedAtEnd(name + "  ", 2);
        }
        for (String line : new String[] {"piece 1", "walk 1", "learn 1", "row 0", "back", "zone", "fixed", "hand", "piece 1;whole 0"}) {
            refusedAtEnd(line, 2);
            refusedAtEnd(line + " ", 2);
            refused(line + " walk", 2, line.length() + 1);
        }
        for (String line : new String[] {"piece 1", "walk 1", "learn 1", "back", "zone", "fixed", "hand", "piece 1;whole 0"}) {
            refused(line + " 0", 2, line.length() + 1);
            refused(line + " 99", 2, line.length() + 1);
        }
        // A text that is cut off: within a line it is the length, within a name the name's first byte.
        String text = "piece 2;sort 1 3;row 0 1;hand 4;hand 5;zone 1;walk 1;learn 9;";
        int start = 0;
        for (int n = 1; n < text.length(); n++) {
            char last = text.charAt(n - 1);
            boolean inName = Character.isLetter(last) && Character.isLetter(text.charAt(n));
            start = Character.isLetter(last) && !Character.isLetter(n > 1 ? text.charAt(n - 2) : ' ') ? n - 1 : start;
            String cut = text.substring(0, n);
            HandToHand x = new HandToHand();
            Tape.feed(x, text);
            x.end(n);
            int answer = x.text();
            Due.same("what is cut off is not there: " + cut, answer, Tape.tell(new HandToHand(), cut));
            if (last != ';') {
                refused(cut, inName ? 1 : 2, inName ? start : n);
            } else if (cut.contains("hand")) {
                taken(cut, cut.split(";").length);
            } else {
                refusedAtEnd(cut, 6);
            }
        }
    }

    private static void faultThree() {
        Due.about("3 a NUMBER out of its bounds; an END below the one ahead of it.");
        refused("piece 7;", 3, 6);
        refused("piece 99;", 3, 6);
        refused("whole 0;", 3, 6);
        refused("sort 0;", 3, 5);
        refused("sort 3;", 3, 5);
        refused("row 0 0 3;", 3, 8);
        refused("walk 6;", 3, 5);
        refused("piece 1;hand 0;", 3, 13);
        refused("piece 1;hand 10;", 3, 13);
        refused("piece 1;piece 1;hand 1 0;", 3, 23);
        taken("piece 1;hand 1;learn 99;", 3);
        taken("piece 1;hand 1;learn 0;", 3);
        String four = "piece 1;piece 1;piece 1;hand 1 1 1;hand 1 1 1;hand 1 1 1;hand 1 1 1;";
        refused(four + "zone 2 2 1;", 3, 77);
        refused(four + "zone 3 2 3;", 3, 75);
        taken(four + "zone 2 2 2;", 8);
        taken(four + "zone 1 2 3;", 8);
        // Without a piece no end is within its bounds.
        refused("hand;hand;zone 1;", 3, 15);
    }

    private static void faultFour() {
        Due.about("4 sort of a SORT, row, walk, learn, a RULE (any) for the second time (its NAME; the SORT); whole of a PIECE"
            + " (the PIECE).");
        refused("piece 1;sort 1 1;sort 1 1;", 4, 22);
        refused("piece 1;sort 2 1;sort 1 1;sort 2 1;", 4, 31);
        taken("piece 1;sort 2 1;sort 1 1;hand 1;", 4);
        refused("row 0;  row 0;", 4, 8);
        refused("walk 0;  walk 0;", 4, 9);
        refused("learn 0;  learn 0;", 4, 10);
        String[] rules = {"back", "zone", "fixed"};
        for (String first : rules) {
            for (String second : rules) {
                refused(first + ";  " + second + ";", 4, first.length() + 3);
            }
        }
        refused("piece 1;piece 1;whole 1;whole  1;", 4, 31);
        refused("piece 1;piece 1;whole 0;whole 1;whole 0;", 4, 38);
        taken("piece 1;piece 1;whole 1;whole 0;hand 1 1;", 5);
        // A number out of its bounds is no second time.
        refused("piece 1;whole 0;whole 1;", 3, 22);
        refused("piece 1;sort 1 1;sort 3 1;", 3, 22);
        // Of another text it is no second time.
        HandToHand x = taken("piece 1;sort 1 1;whole 0;row 0;hand 1;walk 1;learn 1;back;", 8);
        Due.same("the same text again", Tape.tell(x, "piece 1;sort 1 1;whole 0;row 0;hand 1;walk 1;learn 1;back;"), 8);
        Tape.tell(x, "piece 1;sort 1 1;whole 0;row 0;walk 1;learn 1;back;?");
        Due.same("and behind a fault", Tape.tell(x, "piece 1;sort 1 1;whole 0;row 0;hand 1;walk 1;learn 1;back;"), 8);
    }

    private static void faultFive() {
        Due.about("5 the 9th piece, the 6th hand (its NAME)");
        refused(times(8, "piece 1;") + " piece 1;", 5, 65);
        refused(times(8, "piece 1;") + " piece", 5, 65);
        refused("piece 1;" + times(5, "hand 1;") + " hand 1;", 5, 44);
        refused("piece 1;" + times(5, "hand 1;") + " hand;", 5, 44);

        Due.about("a piece behind sort, hand, zone, fixed; a hand behind zone, fixed (its NAME)");
        refused("piece 1;sort 1 1; piece 1;", 5, 18);
        refused("sort 1; piece 1;", 5, 8);
        refused("piece 1;hand 1; piece 1;", 5, 16);
        refused("zone; piece 1;", 5, 6);
        refused("fixed; piece 1;", 5, 7);
        refused("piece 1;zone; hand 1;", 5, 14);
        refused("piece 1;fixed; hand 1;", 5, 15);
        refused("piece 1;hand 1;hand 1;fixed 1; hand 1;", 5, 31);
        // Behind what else there is, both may come.
        taken("row 0;walk 0;learn 0;back;piece 1;whole 0;piece 1;hand 1 1;sort 1 1 1;hand 1 1;", 10);
        Tape.told("piece 1;hand 1;zone;sort 1 1;whole 0;");
        // What comes behind in one text is not behind in the next.
        HandToHand x = taken("piece 1;sort 1 1;hand 1;zone;", 4);
        Due.same("the next text", Tape.tell(x, "piece 1;piece 1;hand 1 1;"), 3);
        Tape.tell(x, "zone;?");
        Due.same("the next behind a fault", Tape.tell(x, "piece 1;hand 1;"), 2);

        Due.about("the 7th NUMBER of a row (it, whatever it is)");
        taken("piece 1;hand 1;row 0 1 2 0 1 2;", 3);
        for (String seventh : new String[] {"0", "2", "3", "9", "10", "99"}) {
            refused("row 0 1 2 0 1 2  " + seventh + ";", 5, 17);
        }
        refused("row 0 1 2 0 1 3 0;", 3, 14);
        refused("row 0 1 2 0 1 2 row", 2, 16);
        refusedAtEnd("row 0 1 2 0 1 2", 2);
    }

    private static void faultsBehindAll() {
        Due.about("Behind all (the length): 6 no PIECE, no HAND; 7 some SORT has no UNITS.");
        refusedAtEnd("", 6);
        refusedAtEnd("  ", 6);
        refusedAtEnd("piece 1; ", 6);
        refusedAtEnd("hand; ", 6);
        refusedAtEnd("walk 1;", 6);
        refusedAtEnd("piece 0;", 6);
        refusedAtEnd("hand;hand;hand;hand;hand;", 6);
        refusedAtEnd("piece 0;hand 1; ", 7);
        refusedAtEnd("piece 1;sort 1 0;hand 1;", 7);
        refusedAtEnd("piece 1;piece 1;sort 2 0 0;hand 1 1;  ", 7);
        refusedAtEnd("piece 0;sort 1 1;sort 2 1;hand 1;", 7);
        // Whether the row has it or not.
        refusedAtEnd("piece 1;sort 2 0;row 0 1;hand 1;", 7);
        taken("piece 0;piece 1;sort 1 1 0;hand 1 1;", 4);
    }

    private static void howManyNumbers() {
        Due.about("As many NUMBERS as there are PIECES told ahead (sort, hand), HANDS told ahead but one (zone, fixed):"
            + " another one, or the end of the line too soon: 2.");
        String pieces = "piece 1;piece 1;";
        refused(pieces + "sort 1 1 1 1;", 2, 27);
        refused(pieces + "sort 1 1;", 2, 24);
        refused(pieces + "sort 1;", 2, 22);
        refused(pieces + "hand 1 1 1;", 2, 25);
        refused(pieces + "hand 1 1 99;", 2, 25);
        refused(pieces + "hand 1;", 2, 22);
        refused(pieces + "hand;", 2, 20);
        refusedAtEnd(pieces + "hand 1", 2);
        refusedAtEnd(pieces + "sort 1 1", 2);
        String hands = pieces + "hand 1 1;hand 1 1;hand 1 1;";
        for (String rule : new String[] {"zone ", "fixed"}) {
            taken(hands + rule + " 1 1;", 6);
            refused(hands + rule + " 1 1 1;", 2, 53);
            refused(hands + rule + " 1 1 0;", 2, 53);
            refused(hands + rule + " 1;", 2, 50);
            refused(hands + rule + ";", 2, 48);
            refusedAtEnd(hands + rule + " 1", 2);
            // One hand, or none: no number.
            taken("piece 1;hand 1;" + rule + ";", 3);
            refused("piece 1;hand 1;" + rule + " 1;", 2, 21);
            refusedAtEnd("piece 1;" + rule + ";", 6);
            refused("piece 1;" + rule + " 1;", 2, 14);
        }
        // No piece: no number.
        refusedAtEnd("sort 1;", 6);
        refused("sort 1 1;", 2, 7);
        refusedAtEnd("hand;", 6);
        refused("hand 1;", 2, 5);
    }

    private static void whatATextTells() {
        Due.about("A text that is taken tells all (what no line tells, but PIECES, HANDS, is as at first); THE BENCH begins anew;"
            + " IMAGES are gone; SHEETS stay.");
        HandToHand x = taken("piece 3;piece 2;whole 1;sort 1 4 4;sort 2 5 5;row 1 2 0;hand 6 6;hand 2 2;walk 5;learn 1;fixed 1;", 11);
        x.go(100);
        x.keep(0);
        x.keep(1);
        x.sheet(3, 0, 2);
        x.lay(3, 1, 8);
        Due.same("two lines", Tape.tell(x, "piece 1;hand 9;"), 2);
        Due.same("all is told", Look.told(x), "1 1 0 0 0 0 1 -1 -1 -1 0 -1 -1 -1 -1 -1 -1 -1 -1 -1 1 -1 -1 -1 -1 / 1 / 1 / 1 / 9");
        Due.same("the bench", Look.bench(x), "0 0 0 0 0 / 3 9 0 0 0 0 learnt 0 takes 9");
        Due.same("no images", x.count(0), 0);
        Due.same("back to 0", x.back(0), STATE);
        Due.same("back to 1", x.back(1), STATE);
        Due.same("the sheet", x.read(3, 0, 1, 0, 1) * 10 + x.pace(0, 0), 18);

        Due.about("At first: PIECES of 2, 2, 2 UNITS, HANDS 3 3 3, 2 2 2, 1 1 1, ROW 0.");
        HandToHand first = new HandToHand();
        Due.same("told", Look.told(first), "3 3 0 0 0 0 1 -1 -1 -1 0 -1 -1 -1 -1 -1 -1 -1 -1 -1 3 3 3 -1 -1"
            + " / 2 2 2 / 2 2 2 / 2 2 2 / 3 3 3 / 2 2 2 / 1 1 1");
        Due.same("sheets have nothing", Look.row(3, k -> first.lay(k, 0, 1)), "-11 -11 -11 -11");
        Due.same("no images, no bytes, no cells, six orders", Look.row(3, first::count), "0 0 -4 6");
        Due.same("no faults", first.fault() + first.torn(), 0);
    }

    private static void asInANewObject() {
        Due.about("A text that is taken tells all (what no line tells, but PIECES, HANDS, is as at first)");
        String most = times(8, "piece 6;") + times(4, "hand 9 8 7 6 5 4 3 2;") + "hand 1 1 1 1 1 1 1 1;walk 5;learn 3;row 0 1 2;zone 1 3 5 7;";
        String many = times(5, "piece 1;") + times(5, "hand 1 1 1 1 1;") + "fixed 1 2 3 4;whole 4;sort 2 1 1 1 1 0;row 2 0;";
        String one = "piece 1;hand 1;";
        String two = "piece 1;piece 2;hand 3 2;hand 2 2;";
        String[][] pairs = {{most, one}, {many, two}, {one, many}, {two, most}, {many, one}, {most, two}, {two, one}};
        for (String[] pair : pairs) {
            HandToHand x = new HandToHand();
            Tape.tell(x, pair[0]);
            Look.found(x);
            x.go(500);
            Tape.tell(x, pair[1]);
            HandToHand anew = new HandToHand();
            Tape.tell(anew, pair[1]);
            String name = pair[1] + " behind " + pair[0];
            Due.same("told: " + name, Look.told(x), Look.told(anew));
            Due.same("the bench: " + name, Look.bench(x), Look.bench(anew));
            Due.same("found: " + name, Look.found(x), Look.found(anew));
        }
    }

    // ---- calls

    private static void feed() {
        Due.about("Eight bytes come behind THE TAPE, the highest first: how many it has. FULL: more than 400.");
        HandToHand x = new HandToHand();
        for (int n = 8; n <= TAPE; n += 8) {
            Due.same("feed", x.feed(0x2020202020202020L), n);
        }
        Due.same("feed at 400", x.feed(0x2020202020202020L), FULL);
        Due.same("400 it has still", x.count(1), TAPE);
        Due.same("to 393", x.end(393), TAPE);
        Due.same("feed at 393", x.feed(0x3F3F3F3F3F3F3F3FL), FULL);
        Due.same("393 it has still", x.count(1), 393);
        Due.same("to 392", x.end(392), 393);
        Due.same("feed at 392", x.feed(0x2020202020202020L), TAPE);
        Due.same("and FULL again", x.feed(0), FULL);
        Due.same("nothing of what was refused is there", x.text(), -10 - TAPE);
        Due.same("all blanks", x.fault(), 6);
        Due.same("feed at 0", x.feed(0x706965636520323BL), 8);
        Due.same("behind it", x.feed(0x68616E6420373B3FL), 16);
        x.end(15);
        Due.same("piece 2;hand 7;", x.text(), 2);
        Due.same("7 and 2", x.pace(0, 0) * 10 + x.units(0, 0), 72);
        Due.same("bytes with the highest bit", x.feed(LOW * 0x100000001L), 8);
        Due.same("none is a token", x.text(), -10);
        // A byte that was cut off does not come back.
        x.feed(0x3F3F3F3F3F3F3F3FL);
        x.end(1);
        x.feed(0x2020202020202020L);
        x.end(0);
        Due.same("empty", x.text() * 10 + x.fault(), -94);
    }

    private static void end() {
        Due.about("THE TAPE keeps its first n bytes: how many it had. BAD (n above that, too).");
        HandToHand x = new HandToHand();
        Due.same("0 of 0", x.end(0), 0);
        Due.same("1 of 0", x.end(1), BAD);
        Due.same("-1 of 0", x.end(-1), BAD);
        x.feed(0x6261636B3B3F3F3FL);
        for (int n : new int[] {-1, 9, 400, 401, LOW, HIGH}) {
            Due.same(n + " of 8", x.end(n), BAD);
            Due.same("8 it has still", x.count(1), 8);
        }
        Due.same("8 of 8", x.end(8), 8);
        Due.same("5 of 8", x.end(5), 8);
        Due.same("6 of 5", x.end(6), BAD);
        Due.same("back;", x.text() * 10 + x.fault(), -144);
        Due.same("0 behind a text", x.end(0), 0);
    }

    private static void text() {
        Due.about("THE TAPE (empty then, by a FAULT, too) tells all: how many lines; -10 less the place of its FAULT: that which"
            + " was told stays.");
        HandToHand x = taken(BEFORE, 3);
        x.go(5);
        x.keep(1);
        x.sheet(0, 0, 7);
        String all = Look.all(x);
        for (String text : new String[] {"?", "piece 1;hand 1;walk", "piece 1;hand 1;walk 6;", "walk 1;walk 1;", "hand;piece 1;", "", "piece 0;hand 1;"}) {
            Due.holds("refused: " + text, Tape.tell(x, text) <= -10);
            Due.holds("fault of: " + text, x.fault() > 0);
            Due.same("empty behind: " + text, x.count(1), 0);
        }
        Due.same("fault 7 is left", x.fault(), 7);
        Due.same("all but the fault is as it was", Look.all(x), all.replace(" | 0 0", " | 7 0"));
        Due.same("images stay", x.back(1), 5);
        Due.same("taken", Tape.tell(x, "piece 1;hand 1;"), 2);
        Due.same("empty behind it", x.count(1), 0);

        Due.about("The FAULT of the latest text(); 0.");
        HandToHand z = new HandToHand();
        Due.same("none yet", z.fault(), 0);
        Tape.tell(z, "?");
        Due.same("1", z.fault(), 1);
        Due.same("1 still", z.fault(), 1);
        z.go(1);
        z.read(0, 0, 0, 0, 6);
        Due.same("other calls leave it", z.fault(), 1);
        Tape.tell(z, ";");
        Due.same("2", z.fault(), 2);
        Tape.tell(z, BEFORE);
        Due.same("0 by a text that is taken", z.fault(), 0);
    }

    private static void rule() {
        Due.about("What holds: 0 PIECES, 1 HANDS, 2 WALK, 3 LEARN, 4 RULE (0 back, 1 zone, 2 fixed), 5 WHOLE ones (bits), 6 how many SORTS"
            + " THE ROW has");
        HandToHand all = taken(times(8, "piece 1;") + times(5, "hand 1 1 1 1 1 1 1 1;") + "walk 5;learn 99;whole 7;whole 1;row 2 1;", 18);
        Due.same("all", Look.row(7, all::rule), "8 5 5 99 0 130 2 -1");
        Due.same("whole ones, all", taken("piece 1;piece 1;whole 1;whole 0;hand 1 1;", 5).rule(5), 3);
        Due.same("zone", taken("piece 1;hand 1;zone;", 3).rule(4), 1);
        Due.same("fixed", taken("piece 1;hand 1;fixed;", 3).rule(4), 2);
        Due.about("RULE: back (at first).");
        Due.same("back", taken("piece 1;hand 1;", 2).rule(4), 0);

        Due.about("10 and i: SORT i of THE ROW; 20 and h: END of HAND h (the last: n; back: n). BAD.");
        HandToHand x = taken(times(8, "piece 1;") + times(5, "hand 1 1 1 1 1 1 1 1;") + "zone 1 1 7 8;row 0 1 2 2 1 0;", 15);
        Due.same("all", Look.row(25, x::rule), "8 5 0 0 1 0 6 -1 -1 -1 0 1 2 2 1 0 -1 -1 -1 -1 1 1 7 8 8 -1");
        HandToHand back = taken("piece 1;piece 1;hand 1 1;hand 1 1;back;", 5);
        Due.same("back", Look.row(25, back::rule), "2 2 0 0 0 0 1 -1 -1 -1 0 -1 -1 -1 -1 -1 -1 -1 -1 -1 2 2 -1 -1 -1 -1");
        HandToHand one = taken("piece 1;piece 1;hand 1 1;fixed;", 4);
        Due.same("alone", one.rule(20) * 10 + one.rule(4), 22);
        for (int what : new int[] {-1, -10, -20, 26, 30, 100, LOW, HIGH}) {
            Due.same("rule " + what, x.rule(what), BAD);
        }
    }

    private static void unitsCall() {
        Due.about("UNITS of a PIECE of a SORT. BAD.");
        HandToHand x = taken("piece 1;piece 2;sort 2 3 4;hand 1 1;", 4);
        Due.same("first and last", x.units(0, 0) * 10 + x.units(2, 1), 14);
        for (int wrong : new int[] {-1, 3, 8, LOW, HIGH}) {
            Due.same("sort " + wrong, x.units(wrong, 0), BAD);
            Due.same("piece " + wrong, x.units(0, wrong), BAD);
        }
        Due.same("piece 2", x.units(0, 2), BAD);
    }

    private static void pace() {
        Due.about("PACE of a HAND for a PIECE. BAD.");
        HandToHand x = taken("piece 1;piece 1;hand 1 2;hand 3 4;", 4);
        Due.same("first and last", x.pace(0, 0) * 10 + x.pace(1, 1), 14);
        for (int wrong : new int[] {-1, 2, 5, 8, LOW, HIGH}) {
            Due.same("hand " + wrong, x.pace(wrong, 0), BAD);
            Due.same("piece " + wrong, x.pace(0, wrong), BAD);
        }
        // More was told ahead than is now.
        HandToHand y = taken(times(8, "piece 1;") + times(5, "hand 1 1 1 1 1 1 1 1;"), 13);
        Tape.tell(y, "piece 1;hand 1;");
        Due.same("no hand 1 any more", y.pace(1, 0), BAD);
        Due.same("no piece 1 any more", y.pace(0, 1), BAD);
        Due.same("nor units", y.units(0, 1), BAD);
    }

    private static void setPace() {
        Due.about("That becomes v: what it was. BAD. THE BENCH, what was learnt stay.");
        HandToHand x = taken("piece 1;piece 2;hand 5 6;hand 7 8;learn 1;", 5);
        x.go(20);
        String bench = Look.row(4, x::now) + Look.hands(x) + x.learnt(1, 0);
        Due.same("to 1", x.setPace(1, 1, 1), 8);
        Due.same("to 9", x.setPace(1, 1, 9), 1);
        Due.same("to what it is", x.setPace(1, 1, 9), 9);
        Due.same("the first", x.setPace(0, 0, 2), 5);
        Due.same("they are", x.pace(0, 0) * 1000 + x.pace(0, 1) * 100 + x.pace(1, 0) * 10 + x.pace(1, 1), 2679);
        Due.same("the bench", Look.row(4, x::now) + Look.hands(x) + x.learnt(1, 0), bench);
        String all = Look.all(x);
        for (int wrong : new int[] {-1, 2, 8, LOW, HIGH}) {
            Due.same("hand " + wrong, x.setPace(wrong, 0, 1), BAD);
            Due.same("piece " + wrong, x.setPace(0, wrong, 1), BAD);
        }
        for (int wrong : new int[] {0, 10, -1, LOW, HIGH}) {
            Due.same("pace " + wrong, x.setPace(0, 0, wrong), BAD);
        }
        Due.same("nothing is set", Look.all(x), all);
        // The unit that she works at takes what it took; the next takes what is told now.
        HandToHand y = taken("piece 1;hand 5;", 2);
        y.setPace(0, 0, 2);
        Due.same("left of this unit", Look.hands(y), "works 0.0 for 5");
        y.go(5);
        Due.same("of the next one", Look.hands(y), "works 0.0 for 2");
    }
}
