/** Runs, settling, orders and parts: each sentence of the document that names an edge, one by one. */
public final class RunsEdgesTest {
    private static final int BAD = HandToHand.BAD, STATE = HandToHand.STATE, NONE = HandToHand.NONE;
    private static final int LOW = Integer.MIN_VALUE, HIGH = Integer.MAX_VALUE;

    // Hand 0 makes piece 0, hand 1 piece 1 and goes 2 ticks back: handed over at 2, 5, 8, .., coats at 3, 6, 9, ..
    private static final String FIXED_PARTS = "piece 1;piece 1;hand 2 2;hand 1 1;fixed 1;walk 1;";
    // Hand 1 at 0 takes over at 0.0; at 6, 8, 12, 14, .. she is done and takes over at 1.1, 1.0, 1.1, 1.0, ..
    private static final String TURNS = "piece 1;piece 2;hand 2 2;hand 2 2;";
    // Coats of sorts 0 and 1 are done two at a time, at 2, 4, 6, ..
    private static final String PAIRS = "piece 1;piece 1;sort 1 1 0;row 0 1;hand 1 1;hand 1 1;";
    private static final String NO_RING = "piece 1;hand 9;hand 9;learn 99;";
    // Each hand is quick at one piece: where she is slow she learns, and for longer than a run.
    private static final String ONE_RING = "piece 1;piece 1;hand 1 9;hand 9 1;learn 99;fixed 1;";
    private static final String OTHER_RING = "piece 1;piece 1;hand 9 1;hand 1 9;learn 99;fixed 1;";

    private RunsEdgesTest() {
    }

    public static void main(String[] args) {
        runBegins();
        runEnds();
        run();
        mostWaited();
        waits();
        over();
        kept();
        judge();
        settling();
        sortsInARing();
        learntInARing();
        latestRings();
        ringsBehindLargerBenches();
        settles();
        where();
        makes();
        could();
        lowestTerms();
        orders();
        order();
        best();
        stands();
        parts();
        bestParts();
        less();
        benchStays();
        Due.end();
    }

    private static void all(String what, HandToHand x, int m, String want) {
        Due.same(what, Look.row(5, i -> x.run(m, i)), want);
    }

    // ---- runs

    private static void runBegins() {
        Due.about("A RUN begins as THE BENCH at first, nothing learnt");
        HandToHand x = Tape.told("piece 1;row 0 1;hand 3;hand 2;learn 2;");
        String at0 = Look.row(5, i -> x.run(7, i));
        x.go(101);
        x.night();
        Due.holds("much was learnt", x.takes(1, 0) == 1 && x.now(0) == 101);
        x.run(8, 0);
        Due.same("as at first", Look.row(5, i -> x.run(7, i)), at0);
    }

    private static void runEnds() {
        Due.about("and ends when m coats are DONE (m 1 to 120), behind all that is done at that TICK, or STUCK.");
        // At 2 hand 0 is done; then she has a new coat and hand 1 takes it over, at that tick.
        HandToHand x = Tape.told("piece 1;hand 1;hand 1;");
        all("2 coats", x, 2, "2 2 2 0 2 0");
        Due.same("handed over at the last tick", x.over(2, 1, 0), 2);
        HandToHand pairs = Tape.told(PAIRS);
        all("1 coat, and 1 more at its tick", pairs, 1, "2 2 2 0 1 0");
        all("2 coats", pairs, 2, "2 2 2 0 1 0");
        all("3 coats, and 1 more", pairs, 3, "4 4 3 0 2 0");
        all("119 coats", pairs, 119, "120 120 61 0 60 0");
        all("120 coats", pairs, 120, "120 120 61 0 60 0");
        HandToHand most = Tape.told("piece 1;hand 9;");
        all("one coat", most, 1, "9 1 0 0 0 -4");
        all("120 coats", most, 120, "1080 120 0 0 0 -4");
    }

    private static void run() {
        Due.about("A RUN of m coats: 0 its TICKS, 1 coats DONE, 2 HANDINGS OVER, 3 whether it was STUCK (1, 0), 4 WAITING of all");
        HandToHand x = Tape.told(FIXED_PARTS);
        all("1", x, 1, "3 1 1 0 2 -4");
        all("2", x, 2, "6 2 2 0 3 1");
        all("120", x, 120, "360 120 120 0 121 1");
        all("2 again", x, 2, "6 2 2 0 3 1");
        all("1 again", x, 1, "3 1 1 0 2 -4");
        // Of five hands with a piece each, the last waits 4 ticks, the one ahead 3, and so on.
        HandToHand five = Tape.told("piece 1;piece 1;piece 1;piece 1;piece 1;hand 1 1 1 1 1;hand 1 1 1 1 1;hand 1 1 1 1 1;"
            + "hand 1 1 1 1 1;hand 1 1 1 1 1;fixed 1 2 3 4;");
        all("five hands", five, 1, "5 1 14 0 10 -4");
        for (int wrong : new int[] {0, -1, 121, LOW, HIGH}) {
            Due.same("run of " + wrong, x.run(wrong, 0), BAD);
        }
        for (int wrong : new int[] {-1, 6, LOW, HIGH}) {
            Due.same("what " + wrong, x.run(1, wrong), BAD);
        }
    }

    private static void mostWaited() {
        Due.about("5 the PIECE at which most TICKS were waited by HANDS who STOOD there, of several the least (NONE: none).");
        Due.same("who was ready stood nowhere", Tape.told(FIXED_PARTS).run(1, 5), NONE);
        Due.same("nobody waits", Tape.told("piece 6;hand 9;").run(120, 5), NONE);
        Due.same("2 ticks at 0, 1 at 1", Tape.told("piece 1;piece 1;hand 2 2;hand 2 3;").run(1, 5), 0);
        Due.same("1 tick at each", Tape.told("piece 1;piece 1;hand 2 2;hand 1 3;").run(1, 5), 0);
        Due.same("1 tick at 0, 2 at 1", Tape.told("piece 1;piece 1;hand 2 2;hand 1 4;").run(1, 5), 1);
        Due.same("1 tick at 1 and at 2", Tape.told("piece 0;piece 1;piece 1;hand 1 2 2;hand 1 1 3;").run(1, 5), 1);
        Due.same("at the last piece", Tape.told("piece 1;piece 1;piece 1;piece 1;piece 1;piece 1;piece 1;piece 1;"
            + "hand 1 1 1 1 1 1 1 1;hand 1 1 1 1 1 1 1 9;").run(9, 5), 7);
    }

    private static void waits() {
        Due.about("WAITING of a HAND in a RUN of m coats. BAD.");
        HandToHand x = Tape.told(FIXED_PARTS);
        x.go(50);
        Due.same("in a run of 1", x.waits(1, 0) * 10 + x.waits(1, 1), 2);
        Due.same("in a run of 2", x.waits(2, 0) * 10 + x.waits(2, 1), 12);
        Due.same("in a run of 120", x.waits(120, 0) * 10 + x.waits(120, 1), 1192);
        for (int wrong : new int[] {0, -1, 121, LOW, HIGH}) {
            Due.same("run of " + wrong, x.waits(wrong, 0), BAD);
        }
        for (int wrong : new int[] {-1, 2, 5, LOW, HIGH}) {
            Due.same("hand " + wrong, x.waits(1, wrong), BAD);
        }
    }

    private static void over() {
        Due.about("HANDING OVER k of a RUN of m coats: 0 TICK, 1 who TAKES OVER, 2 PIECE, 3 UNIT, 4 SORT. BAD: also beyond.");
        HandToHand x = Tape.told("piece 2;row 1 2;hand 1;hand 1;");
        Due.same("the first", Look.row(5, i -> x.over(1, 0, i)), "0 1 0 0 1 -1");
        Due.same("the second", Look.row(5, i -> x.over(1, 1, i)), "2 1 0 1 2 -1");
        Due.same("the third is beyond a run of 1", x.over(1, 2, 0), BAD);
        Due.same("and there in a run of 2", Look.row(5, i -> x.over(2, 2, i)), "3 1 0 1 1 -1");
        for (int wrong : new int[] {-1, 599, 600, 601, LOW, HIGH}) {
            Due.same("handing over " + wrong, x.over(1, wrong, 0), BAD);
        }
        for (int wrong : new int[] {0, -1, 121, LOW, HIGH}) {
            Due.same("run of " + wrong, x.over(wrong, 0, 0), BAD);
        }
        for (int wrong : new int[] {-1, 5, LOW, HIGH}) {
            Due.same("what " + wrong, x.over(1, 0, wrong), BAD);
        }
        Due.same("nobody takes over", Tape.told("piece 1;hand 1;").over(120, 0, 0), BAD);
        // Who takes over at the same tick comes in the order in which it is done.
        HandToHand three = new HandToHand();
        Due.same("at TICK 0", Look.row(2, k -> three.over(1, k, 0) * 10 + three.over(1, k, 1)), "1 2 1");
    }

    private static void kept() {
        Due.about("HANDINGS OVER are numbered (0 first; 600 are kept).");
        // Each coat goes through five hands: no run has more.
        HandToHand x = Tape.told("piece 1;piece 1;piece 1;piece 1;piece 1;hand 1 1 1 1 1;hand 1 1 1 1 1;hand 1 1 1 1 1;"
            + "hand 1 1 1 1 1;hand 1 1 1 1 1;fixed 1 2 3 4;");
        Due.same("four for each coat, and ten", x.run(120, 2), 490);
        Due.same("the first", x.over(120, 0, 0) * 10 + x.over(120, 0, 1), 11);
        Due.same("the last", x.over(120, 489, 0) * 10 + x.over(120, 489, 2), 1241);
        Due.same("beyond", x.over(120, 490, 0), BAD);
        Due.same("all are told right", x.judge(489, 124, 1, 1, 0), 0);
    }

    private static void judge() {
        Due.about("A told HANDING OVER k of a RUN of 120 is looked at: 0 right; 1 TICK, 2 who, 3 PIECE, 4 UNIT is wrong (the first"
            + " that is). BAD: there is no such one.");
        HandToHand x = Tape.told(TURNS);
        Due.same("right", x.judge(1, 6, 1, 1, 1), 0);
        Due.same("TICK", x.judge(1, 5, 1, 1, 1), 1);
        Due.same("TICK, later", x.judge(1, 7, 1, 1, 1), 1);
        Due.same("who", x.judge(1, 6, 2, 1, 1), 2);
        Due.same("PIECE", x.judge(1, 6, 1, 0, 1), 3);
        Due.same("UNIT", x.judge(1, 6, 1, 1, 0), 4);
        Due.same("all", x.judge(1, 5, 0, 0, 0), 1);
        Due.same("all but TICK", x.judge(1, 6, 0, 0, 0), 2);
        Due.same("all but TICK, who", x.judge(1, 6, 1, 0, 0), 3);
        Due.same("numbers that there are not", x.judge(1, LOW, HIGH, LOW, HIGH), 1);
        Due.same("a who that there is not", x.judge(1, 6, LOW, -1, 7), 2);
        Due.same("a PIECE that there is not", x.judge(1, 6, 1, HIGH, 7), 3);
        Due.same("a UNIT that there is not", x.judge(1, 6, 1, 1, -1), 4);
        int last = x.run(120, 2) - 1;
        x.run(3, 0);
        Due.same("the last", x.judge(last, x.over(120, last, 0), 1, 1, x.over(120, last, 3)), 0);
        for (int wrong : new int[] {-1, last + 1, 600, LOW, HIGH}) {
            Due.same("there is no " + wrong, x.judge(wrong, 0, 1, 0, 0), BAD);
        }
        Due.same("there is none", Tape.told("piece 1;hand 1;").judge(0, 0, 0, 0, 0), BAD);
        // Of a run of 120, whatever the bench has come to.
        x.go(777);
        Due.same("right still", x.judge(1, 6, 1, 1, 1), 0);
    }

    // ---- settling

    private static void ring(String text, String want) {
        HandToHand x = Tape.told(text);
        Due.same("ring of " + text, Look.row(2, x::settles), want);
    }

    private static void settling() {
        Due.about("SETTLING: in a RUN of 120, at each TICK at which coats become DONE, behind all that is done at it: what all HANDS"
            + " have and do, the next SORT's place in THE ROW");
        ring("piece 1;hand 4;", "1 1 4");
        ring(FIXED_PARTS, "1 1 3");
        ring(TURNS, "1 2 6");
        ring(PAIRS, "2 2 2");
        // At 2 and 7 she is done, with different things behind; at 9 it is as at 2.
        ring("piece 2;whole 0;hand 3;hand 1;", "1 2 7");
        // All coats are alike, yet the place in the row comes round with the sixth.
        ring("piece 1;row 0 1 2 0 1 2;hand 2;", "1 6 12");
        // Both do the same each time, but at other units; at other pieces; with other ticks left of the way.
        ring("piece 3;hand 1;hand 1;", "1 2 3");
        ring("piece 1;piece 2;hand 3 2;hand 2 2;", "1 2 8");
        ring("piece 1;hand 1;hand 1;walk 2;", "1 3 3");
        // The place is the same, but not the sort that she has: as at 1 only at 1 + 3.
        ring("piece 1;sort 1 2;row 0 0 1;hand 1;", "1 3 4");
    }

    /** Coats of a sort with fewer pieces are done ahead of older ones, so that the place in the row does not tell sorts. */
    private static void sortsInARing() {
        Due.about("what all HANDS have and do");
        // At 3 and at 7 all is the same but that hand 2 works at piece 1 of a coat of sort 1, then of sort 0; at 8 as at 4.
        ring("piece 0;piece 1;sort 1 3 1;sort 2 1 0;row 1 2 0;hand 3 1;hand 1 1;hand 1 1;", "3 3 4");
        // Sorts that are alike in all are still not the same.
        ring("piece 0;piece 1;sort 1 1 0;row 2 2 1 0;hand 1 1;hand 2 1;hand 1 1;hand 2 3;", "4 4 5");
        // Hand 1 works at piece 2 of sort 0 at 1, at piece 0 of sort 2 at 4, all else is the same; at 5 as at 2.
        ring("piece 0;piece 0;piece 1;sort 1 1 0 0;sort 2 1 0 0;row 0 2;hand 1 1 2;hand 1 1 2;", "2 2 3");
        // A sort more and a unit less, or a tick less, are not the same either.
        ring("piece 5;sort 2 2;row 0 0 2 0;hand 1;hand 1;", "3 8 17");
        ring("piece 4;sort 1 1;sort 2 2;row 2 1 0;hand 2;hand 2;hand 3;zone 1 1;walk 2;", "2 6 14");
        ring("piece 1;piece 0;sort 1 0 1;sort 2 0 1;row 0 1 2 1 2;hand 2 1;hand 2 2;hand 1 2;hand 1 2;", "2 10 11");
    }

    private static void learntInARing() {
        Due.about("what was learnt (of each no more than makes her PACE 1): the first such that is as an earlier one: coats AHEAD of"
            + " that, coats and TICKS of THE RING from it on.");
        // Her pace is 1 from the fourth unit on.
        ring("piece 1;hand 3;learn 2;", "4 1 1");
        ring("piece 1;hand 1;learn 99;", "1 1 1");
        ring("piece 2;hand 2;learn 99;", "50 1 2");
        // With a unit of 3 by the coat, 9 are learnt with the third coat.
        ring("piece 3;hand 4;learn 3;", "3 1 3");
        // Without learn what was done makes no difference.
        ring("piece 1;hand 9;learn 0;", "1 1 9");
        // Of each piece: the slower one has been learnt with the eighth coat.
        ring("piece 1;piece 1;hand 3 5;learn 2;", "8 1 2");
    }

    private static void latestRings() {
        Due.about("Else NONE.");
        // A run of 120 is just long enough: 119 units are learnt at 119, and nothing more at 120.
        ring("piece 1;hand 8;learn 17;", "119 1 1");
        // 120 units are learnt at 120, and nothing is looked at behind that.
        ring("piece 1;hand 7;learn 20;", "-4 -4 -4");
        // Two at a time: 59 units of each are learnt at 118, 60 at 120.
        ring("piece 1;piece 1;sort 1 1 0;row 0 1;hand 2 1;hand 1 2;learn 59;", "118 2 2");
        ring("piece 1;piece 1;sort 1 1 0;row 0 1;hand 2 1;hand 1 2;learn 60;", "-4 -4 -4");
        ring("piece 1;hand 9;learn 99;", "-4 -4 -4");
        ring(NO_RING, "-4 -4 -4");
    }

    /** What a larger bench was like, whose hands learnt with every coat, is no part of a smaller one's ring. */
    private static void ringsBehindLargerBenches() {
        Due.about("A text that is taken tells all");
        String hands = "hand 9;";
        for (int h = 2; h <= 5; h++) {
            hands += "hand 9;";
            // The last hand makes each coat alone, the others wait.
            HandToHand x = Tape.told("piece 1;learn 99;" + hands);
            Due.same("the last of " + h + " learns on", Look.row(2, x::settles), "-4 -4 -4");
            Tape.tell(x, "piece 1;hand 4;");
            Due.same("one hand behind " + h, Look.row(2, x::settles), "1 1 4");
        }
        HandToHand x = Tape.told("piece 1;piece 1;piece 1;hand 9 9 9;learn 99;");
        Due.same("learns on at all pieces", Look.row(2, x::settles), "-4 -4 -4");
        Tape.tell(x, "piece 1;piece 1;hand 2 2;");
        Due.same("two pieces behind three", Look.row(2, x::settles), "1 1 4");
    }

    private static void settles() {
        Due.about("SETTLING: 0 coats AHEAD, 1 coats of THE RING, 2 TICKS of THE RING. BAD; NONE.");
        for (String text : new String[] {TURNS, NO_RING}) {
            HandToHand x = Tape.told(text);
            for (int wrong : new int[] {-1, 3, LOW, HIGH}) {
                Due.same("settles " + wrong + " of " + text, x.settles(wrong), BAD);
            }
        }
        HandToHand x = Tape.told(NO_RING);
        Due.same("none", x.settles(0), NONE);
        x.setPace(0, 0, 1);
        x.setPace(1, 0, 1);
        Due.same("a ring by other paces", Look.row(2, x::settles), "1 2 2");
        x.setPace(0, 0, 9);
        Due.same("none again", x.settles(2), NONE);
    }

    private static void where() {
        Due.about("Where a HAND (not 0) TAKES OVER in THE RING: how many times (what 0), whether always at the same PIECE and UNIT"
            + " (1; 1, 0: also for no time), the first such PIECE (2; NONE), UNIT (3; NONE). BAD; NONE: no RING.");
        HandToHand never = Tape.told("piece 1;hand 1;hand 1;fixed 1;");
        Due.same("no time", Look.row(3, i -> never.where(1, i)), "0 0 -4 -4");
        HandToHand behind = Tape.told(FIXED_PARTS);
        behind.where(1, 0);
        Tape.tell(behind, "piece 1;hand 1;hand 1;fixed 1;");
        Due.same("no time behind another text", Look.row(3, i -> behind.where(1, i)), "0 0 -4 -4");
        HandToHand once = Tape.told(FIXED_PARTS);
        Due.same("once", Look.row(3, i -> once.where(1, i)), "1 1 1 0");
        // Three coats by the ring, each handed over at piece 1.
        HandToHand often = Tape.told("piece 1;piece 1;row 0 1 2;hand 2 2;hand 1 1;fixed 1;walk 1;");
        Due.same("three times", Look.row(3, i -> often.where(1, i)), "3 1 1 0");
        HandToHand turns = Tape.told(TURNS);
        Due.same("at two units of a piece", Look.row(3, i -> turns.where(1, i)), "2 0 1 0");
        for (String text : new String[] {TURNS, NO_RING}) {
            HandToHand x = Tape.told(text);
            for (int wrong : new int[] {0, -1, 2, 5, LOW, HIGH}) {
                Due.same("hand " + wrong + " of " + text, x.where(wrong, 0), BAD);
            }
            for (int wrong : new int[] {-1, 4, LOW, HIGH}) {
                Due.same("what " + wrong + " of " + text, x.where(1, wrong), BAD);
            }
        }
        HandToHand none = Tape.told(NO_RING);
        Due.same("no ring", Look.row(3, i -> none.where(1, i)), "-4 -4 -4 -4");
        Due.same("alone", Tape.told("piece 1;hand 1;").where(1, 0), BAD);

        Due.about("(From the TICK at which THE RING begins, without it, to that at which it is round, with it.)");
        // From 6, at which she takes over at 1.1, to 12, at which she does so, too; at 8 she takes over at 1.0.
        Due.same("the first is that at 8", turns.where(1, 2) * 10 + turns.where(1, 3), 10);
        Due.same("those at 8 and 12", turns.where(1, 0), 2);
        // From 2 to 3, taking over at each tick.
        HandToHand each = Tape.told("piece 1;piece 1;hand 1 1;hand 1 1;fixed 1;");
        Due.same("ring", Look.row(2, each::settles), "1 1 1");
        Due.same("one of two", each.where(1, 0), 1);
    }

    private static void makes() {
        Due.about("MAKES of an order of HANDS and a RULE: coats by TICKS of THE RING; 0 by 1, if there is none.");
        HandToHand x = Tape.told(FIXED_PARTS);
        Due.same("one by 3", x.makes(0) * 10 + x.makes(1), 13);
        HandToHand none = Tape.told(NO_RING);
        Due.same("none", none.makes(0) * 10 + none.makes(1), 1);
        Due.about("MAKES: 0 the numerator, 1 the denominator. BAD.");
        for (int wrong : new int[] {-1, 2, LOW, HIGH}) {
            Due.same("makes " + wrong, x.makes(wrong), BAD);
            Due.same("makes " + wrong + " without a ring", none.makes(wrong), BAD);
        }
    }

    private static String could(String text) {
        HandToHand x = Tape.told(text);
        return x.could(0) + "/" + x.could(1);
    }

    private static void could() {
        Due.about("COULD: the sum over HANDS of ROW's coats by the TICKS that one alone needs for them (without WALK, nothing learnt).");
        Due.same("alone", could("piece 1;hand 9;"), "1/9");
        Due.same("a coat a tick", could("piece 1;hand 1;"), "1/1");
        Due.same("five coats a tick", could("piece 1;hand 1;hand 1;hand 1;hand 1;hand 1;"), "5/1");
        Due.same("a row of six", could("piece 1;sort 1 2;sort 2 3;row 0 1 2 2 1 0;hand 1;"), "1/2");
        Due.same("walk, learn, rule and whole are nothing to it",
            could("piece 1;piece 1;hand 2 3;hand 3 3;walk 5;learn 1;fixed 1;whole 0;"), "11/30");
        Due.same("sorts that the row has not are nothing to it", could("piece 1;sort 1 6;hand 2;"), "1/2");
        Due.same("pieces of 0 are nothing to it", could("piece 0;piece 1;hand 9 2;"), "1/2");
        HandToHand x = Tape.told("piece 1;hand 3;learn 1;");
        x.go(90);
        Due.same("nothing learnt", x.could(1), 3);
        x.setPace(0, 0, 8);
        Due.same("by what is told now", x.could(1), 8);
        // 48 pieces' units of six coats, by 9: 2592 ticks; the others are near it and share nothing with it.
        String eight = "piece 6;piece 6;piece 6;piece 6;piece 6;piece 6;piece 6;piece 6;";
        Due.same("the most ticks", could(eight + "row 0 0 0 0 0 0;hand 9 9 9 9 9 9 9 9;"), "1/432");
        Due.about("COULD: likewise. BAD.");
        for (int wrong : new int[] {-1, 2, LOW, HIGH}) {
            Due.same("could " + wrong, x.could(wrong), BAD);
        }
    }

    private static void lowestTerms() {
        Due.about("Fractions are in lowest terms, told as two numbers, first the numerator, then the denominator, which is above 0.");
        // The ring has 3 coats by 6 ticks; with two hands 6 by 6; with both fixed parts of one tick 3 by 3.
        HandToHand x = Tape.told("piece 1;piece 1;row 0 1 2;hand 1 1;hand 1 1;");
        Due.same("the ring", x.settles(1) * 100 + x.settles(2), 303);
        Due.same("makes", x.makes(0) * 10 + x.makes(1), 11);
        Due.same("could", x.could(0) * 10 + x.could(1), 11);
        Due.same("order", x.order(1, 0) * 10 + x.order(1, 1), 11);
        Due.same("best", x.best(1) * 10 + x.best(2), 11);
        Due.same("parts", x.parts(0) * 10 + x.parts(1), 11);
        Due.same("less", x.less(0, 0) * 10 + x.less(0, 1), 12);
        HandToHand none = Tape.told(NO_RING + "fixed 1;");
        Due.same("0 by 1: order", none.order(1, 0) * 10 + none.order(1, 1), 1);
        Due.same("0 by 1: best", none.best(1) * 10 + none.best(2), 1);
        Due.same("0 by 1: less", none.less(0, 0) * 10 + none.less(0, 1), 1);
        HandToHand parts = Tape.told("piece 1;piece 1;hand 9 9;hand 9 9;learn 99;");
        Due.same("0 by 1: parts", parts.parts(0) * 100 + parts.parts(1) * 10 + parts.parts(10), 11);
    }

    // ---- orders

    private static void orders() {
        Due.about("ORDERS: all rows of HANDS, by numbers (their PACES go along, ENDS stay at their places).");
        HandToHand x = new HandToHand();
        StringBuilder rows = new StringBuilder();
        for (int q = 0; q < 6; q++) {
            int order = q;
            rows.append(Look.row(2, i -> x.stands(order, i))).append('/');
        }
        Due.same("rows of three", rows.toString(), "0 1 2/0 2 1/1 0 2/1 2 0/2 0 1/2 1 0/");
        // Ends 1 and 3: who stands at the second place makes the second piece and the third.
        String pieces = "piece 1;piece 1;piece 1;piece 1;";
        HandToHand ends = Tape.told(pieces + "hand 1 2 3 4;hand 4 5 6 7;hand 7 8 9 1;fixed 1 3;walk 1;");
        HandToHand as = Tape.told(pieces + "hand 4 5 6 7;hand 7 8 9 1;hand 1 2 3 4;fixed 1 3;walk 1;");
        Due.same("order 3", ends.order(3, 0) * 100 + ends.order(3, 1), as.makes(0) * 100 + as.makes(1));
        Due.same("the second makes a coat in 17, and goes back 2", as.makes(0) * 100 + as.makes(1), 119);
    }

    private static void order() {
        Due.about("MAKES, if HANDS stood in ORDER q (0 to the number of ORDERS less 1): 0, 1. BAD.");
        HandToHand one = Tape.told("piece 1;hand 4;");
        Due.same("order 0 of one", one.order(0, 0) * 10 + one.order(0, 1), 14);
        Due.same("order 1 of one", one.order(1, 0), BAD);
        HandToHand x = Tape.told(ONE_RING);
        Due.same("order 0", x.order(0, 0) * 10 + x.order(0, 1), 11);
        Due.same("order 1 has no ring", x.order(1, 0) * 10 + x.order(1, 1), 1);
        for (int wrong : new int[] {-1, 2, 120, LOW, HIGH}) {
            Due.same("order " + wrong, x.order(wrong, 0), BAD);
            Due.same("what " + wrong, x.order(0, wrong), BAD);
        }
        HandToHand five = Tape.told("piece 1;hand 1;hand 1;hand 1;hand 1;hand 1;");
        Due.holds("the last of five", five.order(119, 0) > 0);
        Due.same("beyond the last of five", five.order(120, 0), BAD);
        x.setPace(1, 0, 1);
        Due.same("found anew", x.order(1, 0) * 10 + x.order(1, 1), 1);
        x.setPace(0, 1, 1);
        Due.same("found anew, a ring", x.order(1, 0) * 10 + x.order(1, 1), 11);
        one.setPace(0, 0, 5);
        Due.same("order 0 anew", one.order(0, 0) * 10 + one.order(0, 1), 15);
    }

    private static void best() {
        Due.about("Of all ORDERS that which MAKES most, of several the first: 0 its number, 1, 2 what it MAKES; 3 how many ORDERS have"
            + " no RING. BAD.");
        HandToHand x = Tape.told(ONE_RING);
        Due.same("the first makes most", Look.row(3, x::best), "0 1 1 1");
        HandToHand y = Tape.told(OTHER_RING);
        Due.same("the second makes most", Look.row(3, y::best), "1 1 1 1");
        HandToHand alike = Tape.told("piece 1;piece 1;hand 2 2;hand 2 2;hand 2 2;");
        Due.same("of several the first", alike.best(0) * 10 + alike.best(3), 0);
        HandToHand none = Tape.told(NO_RING);
        Due.same("of none the first", Look.row(3, none::best), "0 0 1 2");
        HandToHand one = Tape.told("piece 2;hand 3;");
        Due.same("alone", Look.row(3, one::best), "0 1 6 0");
        for (int wrong : new int[] {-1, 4, LOW, HIGH}) {
            Due.same("best " + wrong, x.best(wrong), BAD);
        }
    }

    private static void stands() {
        Due.about("ORDER q: who stands at place i. BAD.");
        HandToHand five = Tape.told("piece 1;hand 1;hand 1;hand 1;hand 1;hand 1;");
        Due.same("the first", Look.row(4, i -> five.stands(0, i)), "0 1 2 3 4");
        Due.same("the second", Look.row(4, i -> five.stands(1, i)), "0 1 2 4 3");
        Due.same("the 24th", Look.row(4, i -> five.stands(23, i)), "0 4 3 2 1");
        Due.same("the 25th", Look.row(4, i -> five.stands(24, i)), "1 0 2 3 4");
        Due.same("the last", Look.row(4, i -> five.stands(119, i)), "4 3 2 1 0");
        HandToHand x = Tape.told("piece 1;hand 1;hand 1;");
        Due.same("the last of two", x.stands(1, 0) * 10 + x.stands(1, 1), 10);
        for (int wrong : new int[] {-1, 2, 120, LOW, HIGH}) {
            Due.same("order " + wrong, x.stands(wrong, 0), BAD);
            Due.same("place " + wrong, x.stands(0, wrong), BAD);
        }
        Due.same("alone", Tape.told("piece 1;hand 1;").stands(0, 0), 0);
        Due.same("beyond the last of five", five.stands(120, 0), BAD);
        Due.same("no place 5", five.stands(0, 5), BAD);
    }

    private static void parts() {
        Due.about("BAD; NONE: there are fewer PIECES than HANDS.");
        HandToHand fewer = Tape.told("piece 1;piece 1;hand 1 1;hand 1 1;hand 1 1;");
        Due.same("fewer", Look.row(1, fewer::parts), "-4 -4");
        Due.same("their ends", fewer.parts(10) * 10 + fewer.parts(11), NONE * 11);
        for (int wrong : new int[] {-1, 2, 9, 12, 13, LOW, HIGH}) {
            Due.same("parts " + wrong + " of fewer", fewer.parts(wrong), BAD);
        }
        HandToHand as = Tape.told("piece 1;piece 1;piece 1;hand 1 1 1;hand 1 1 1;hand 1 1 1;");
        Due.same("as many", as.parts(0) * 1000 + as.parts(1) * 100 + as.parts(10) * 10 + as.parts(11), 1112);
        for (int wrong : new int[] {-1, 2, 9, 12, 13, LOW, HIGH}) {
            Due.same("parts " + wrong, as.parts(wrong), BAD);
        }
        HandToHand one = Tape.told("piece 1;piece 1;hand 4 5;");
        Due.same("alone she has all", one.parts(0) * 10 + one.parts(1), 19);
        Due.same("and no end", one.parts(10), BAD);
        HandToHand most = Tape.told("piece 1;piece 1;piece 1;piece 1;piece 1;hand 1 1 1 1 1;hand 1 1 1 1 1;hand 1 1 1 1 1;"
            + "hand 1 1 1 1 1;hand 1 1 1 1 1;");
        Due.same("five hands", Look.row(3, i -> most.parts(10 + i)), "1 2 3 4");
        Due.same("no fifth end", most.parts(14), BAD);
    }

    private static void bestParts() {
        Due.about("The best ENDS for fixed (each above the one ahead and below n, from 1 on): MAKES (what 0, 1); 10 and i: END of HAND i;"
            + " of several the first by ENDS, HAND by HAND.");
        HandToHand least = Tape.told("piece 1;piece 1;piece 1;hand 8 9 9;hand 1 1 1;");
        Due.same("the least end", least.parts(10) * 10 + least.parts(1), 18);
        HandToHand most = Tape.told("piece 1;piece 1;piece 1;hand 1 1 1;hand 9 9 8;");
        Due.same("the highest end", most.parts(10) * 10 + most.parts(1), 28);
        // An end of n would be best, as hand 1 is slow, but is none.
        HandToHand below = Tape.told("piece 1;piece 1;hand 1 1;hand 1 9;");
        Due.same("below n", below.parts(10) * 10 + below.parts(1), 19);
        // By 1 and 2, and by 1 and 3, the last hand's 9 ticks are all there is to it.
        HandToHand several = Tape.told("piece 1;piece 1;piece 0;piece 1;hand 1 1 1 1;hand 1 1 1 1;hand 1 1 1 9;");
        Due.same("of several the first", several.parts(10) * 100 + several.parts(11) * 10 + several.parts(1), 129);
        // The same by 1 and 3, 2 and 3: the first hand's end comes first.
        HandToHand first = Tape.told("piece 1;piece 1;piece 1;piece 1;hand 1 1 1 1;hand 1 1 1 1;hand 9 9 9 2;");
        Due.same("hand by hand", first.parts(10) * 100 + first.parts(11) * 10 + first.parts(1), 132);
        // 2 ticks for each are only by ends 2 and 3, behind 1 and 4 in the order.
        HandToHand middle = Tape.told("piece 1;piece 1;piece 1;piece 1;piece 1;" + "hand 1 1 2 1 1;".repeat(3));
        Due.same("2 and 3", middle.parts(10) * 100 + middle.parts(11) * 10 + middle.parts(1), 232);
        HandToHand late = Tape.told("piece 1;".repeat(7) + "hand 1 1 2 1 1 1 1;".repeat(4));
        Due.same("2, 3 and 5", late.parts(10) * 1000 + late.parts(11) * 100 + late.parts(12) * 10 + late.parts(1), 2352);
        // Ends 2 and 2 would leave the slow hand out, but are none.
        HandToHand above = Tape.told("piece 1;piece 1;piece 1;piece 1;hand 1 1 1 1;hand 9 9 9 9;hand 1 1 1 1;");
        Due.same("each above the one ahead", above.parts(10) * 100 + above.parts(11) * 10 + above.parts(1), 129);
        // Whatever the rule is that is told.
        HandToHand zone = Tape.told("piece 1;piece 1;piece 1;hand 8 9 9;hand 1 1 1;zone 3;");
        Due.same("by fixed", zone.parts(10) * 10 + zone.parts(1), 18);
        Due.same("the rule stays", zone.rule(4) * 10 + zone.rule(20), 13);
        zone.setPace(0, 0, 1);
        zone.setPace(0, 1, 1);
        zone.setPace(1, 1, 9);
        Due.same("found anew", zone.parts(10) * 10 + zone.parts(1), 22);
    }

    private static String makesOf(String text) {
        HandToHand x = Tape.told(text);
        return x.makes(0) + "/" + x.makes(1);
    }

    private static String lessOf(String text, int hand) {
        HandToHand x = Tape.told(text);
        return x.less(hand, 0) + "/" + x.less(hand, 1);
    }

    private static void less() {
        Due.about("MAKES without a HAND (zone, fixed: her END goes, too; the last one's: that of the one ahead of her): 0, 1.");
        String pieces = "piece 1;piece 1;piece 1;piece 1;walk 1;";
        String[] hands = {"hand 1 2 3 4;", "hand 3 5 2 2;", "hand 2 1 4 3;"};
        String three = pieces + hands[0] + hands[1] + hands[2];
        for (String rule : new String[] {"zone", "fixed"}) {
            String text = three + rule + " 1 3;";
            Due.same("without the first, " + rule, lessOf(text, 0), makesOf(pieces + hands[1] + hands[2] + rule + " 3;"));
            Due.same("without the second, " + rule, lessOf(text, 1), makesOf(pieces + hands[0] + hands[2] + rule + " 1;"));
            Due.same("without the last, " + rule, lessOf(text, 2), makesOf(pieces + hands[0] + hands[1] + rule + " 1;"));
        }
        Due.same("back", lessOf(three, 1), makesOf(pieces + hands[0] + hands[2]));
        // By fixed, end 1: hand 0 has one tick, hand 2 the other three pieces (8), and goes back to hand 0, who is at piece 1 (3).
        Due.same("by hand", lessOf(three + "fixed 1 3;", 1), "1/11");
        // Whatever was asked of all of them ahead.
        HandToHand asked = Tape.told(three);
        asked.best(0);
        asked.makes(0);
        Due.same("asked ahead", asked.less(1, 0) + "/" + asked.less(1, 1), makesOf(pieces + hands[0] + hands[2]));
        Due.same("asked again", asked.less(0, 0) + "/" + asked.less(0, 1), makesOf(pieces + hands[1] + hands[2]));
        Due.same("one is left", lessOf(FIXED_PARTS, 1), "1/4");
        Due.same("the other is left", lessOf(FIXED_PARTS, 0), "1/2");

        Due.about("BAD; STATE: she is alone.");
        HandToHand alone = Tape.told("piece 1;hand 1;");
        Due.same("alone", alone.less(0, 0) * 10 + alone.less(0, 1), STATE * 11);
        Due.same("BAD comes first", alone.less(0, 2), BAD);
        Due.same("nor is there hand 1", alone.less(1, 0), BAD);
        HandToHand two = Tape.told(FIXED_PARTS);
        for (int wrong : new int[] {-1, 2, 5, LOW, HIGH}) {
            Due.same("hand " + wrong, two.less(wrong, 0), BAD);
            Due.same("what " + wrong, two.less(0, wrong), BAD);
        }
        HandToHand five = Tape.told("piece 1;hand 1;hand 1;hand 1;hand 1;hand 1;");
        Due.holds("the last of five", five.less(4, 0) > 0);
        Due.same("no sixth", five.less(5, 0), BAD);
    }

    // ---- what stays

    private static void benchStays() {
        Due.about("THE BENCH stays.");
        HandToHand x = Tape.told("piece 2;piece 1;piece 3;hand 3 5 2;hand 2 4 4;hand 1 9 1;learn 4;walk 2;zone 1 2;");
        x.go(83);
        x.keep(1);
        String all = Look.all(x);
        x.run(120, 0);
        x.waits(7, 1);
        x.over(3, 0, 0);
        x.judge(0, 0, 0, 0, 0);
        x.settles(0);
        x.where(1, 0);
        x.makes(0);
        x.could(0);
        x.order(5, 0);
        x.best(0);
        x.stands(5, 0);
        x.parts(0);
        x.less(1, 0);
        Due.same("and all else", Look.all(x), all);
        Due.same("the image, too", x.back(1), 83);
    }
}
