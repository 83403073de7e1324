/** The bench as it goes: each sentence of the document that names an edge, one by one. */
public final class BenchEdgesTest {
    private static final int BAD = HandToHand.BAD, STATE = HandToHand.STATE;
    private static final int LOW = Integer.MIN_VALUE, HIGH = Integer.MAX_VALUE;

    private BenchEdgesTest() {
    }

    public static void main(String[] args) {
        atFirst();
        whatAHandDoes();
        nextUnit();
        coatIsDone();
        newCoats();
        takingOver();
        wayBack();
        noTicksBack();
        rules();
        beginningUnits();
        oneAfterTheOther();
        ticksThatAreLeft();
        waiting();
        begin();
        go();
        night();
        nightOverAll();
        now();
        hand();
        learntAndTakes();
        keep();
        back();
        imagesHaveAll();
        Due.end();
    }

    private static void looks(String when, HandToHand x, String hands) {
        Due.same(when, Look.hands(x), hands);
    }

    private static void goes(HandToHand x, int ticks, String hands) {
        x.go(ticks);
        looks("at " + x.now(0), x, hands);
    }

    // ---- what is done at a tick

    private static void atFirst() {
        Due.about("THE BENCH: TICK 0 at first.");
        HandToHand x = new HandToHand();
        Due.same("now", Look.row(4, x::now), "0 0 3 0 0");
        Due.about("All are READY at first. HAND i - 1 is ahead of HAND i, HAND i + 1 behind her.");
        // Of three coats the first comes to the last hand, who is the only one not held.
        looks("at 0", x, "stands 0.0, stands 0.0, works 0.0 for 1");
        Due.about("(TICK 0 when THE BENCH begins; behind a night at once)");
        HandToHand five = Tape.told("piece 6;row 0 1 2;hand 1;hand 1;hand 1;hand 1;hand 1;");
        looks("at 0", five, "stands 0.0, stands 0.0, stands 0.0, stands 0.0, works 0.0 for 1");
        Due.same("sorts", Look.row(4, h -> five.hand(h, 4)), "1 0 2 1 0");
        Due.same("handings over of the first to the fourth", five.now(2), 4 + 3 + 2 + 1);
        five.go(3);
        five.night();
        looks("behind the night", five, "stands 0.0, stands 0.0, stands 0.0, stands 0.0, works 0.0 for 1");
    }

    private static void whatAHandDoes() {
        Due.about("A HAND has a coat at a PIECE and UNIT (UNITS 0 to those done there), and WORKS (so many TICKS left of the UNIT), or"
            + " STANDS; or she has none, and WALKS (so many TICKS left), or is READY.");
        HandToHand x = Tape.told("piece 6;hand 1;hand 9;");
        for (int unit = 0; unit < 6; unit++) {
            looks("unit " + unit, x, "stands 0." + unit + ", works 0." + unit + " for " + (unit == 0 ? 9 : 8));
            goes(x, unit == 0 ? 9 : 8, unit < 5 ? "works 0." + unit + " for 1, works 0." + (unit + 1) + " for 9" : "works 0.5 for 1, ready");
            x.go(1);
        }
        looks("the coat is done, another one taken over", x, "stands 0.0, works 0.0 for 9");
        HandToHand way = Tape.told("piece 1;hand 9;hand 1;walk 3;");
        goes(way, 1, "works 0.0 for 9, walks 3");
        goes(way, 2, "works 0.0 for 7, walks 1");
        goes(way, 1, "works 0.0 for 6, ready");
    }

    private static void nextUnit() {
        Due.about("a HAND who WORKED and has 0 TICKS left STANDS at the next UNIT (of the same PIECE, or of the next one that has"
            + " UNITS), and has learnt by one UNIT.");
        HandToHand x = Tape.told("piece 2;piece 0;piece 1;hand 2 9 3;");
        looks("at 0", x, "works 0.0 for 2");
        goes(x, 1, "works 0.0 for 1");
        Due.same("midway", x.learnt(0, 0), 0);
        goes(x, 1, "works 0.1 for 2");
        Due.same("one unit", x.learnt(0, 0), 1);
        goes(x, 2, "works 2.0 for 3");
        Due.same("two units, none, none", Look.row(2, p -> x.learnt(0, p)), "2 0 0");
        goes(x, 2, "works 2.0 for 1");
        Due.same("the last tick", x.go(1), 1);
        Due.same("two units, none, one", Look.row(2, p -> x.learnt(0, p)), "2 0 1");
        looks("a new coat", x, "works 0.0 for 2");
    }

    private static void coatIsDone() {
        Due.about("If there is none, the coat is DONE, she has none and WALKS: WALK times (n less the PIECE of the HAND ahead of her;"
            + " n, if that one has no coat), HAND 0: 0 TICKS.");
        HandToHand alone = Tape.told("piece 1;hand 2;walk 5;");
        goes(alone, 2, "works 0.0 for 2");
        Due.same("hand 0 goes no way", alone.now(1), 1);
        HandToHand far = Tape.told("piece 1;piece 1;hand 9 9;hand 1 1;walk 2;");
        goes(far, 2, "works 0.0 for 8, walks 4");
        HandToHand near = Tape.told("piece 1;piece 1;piece 1;hand 1 1 9;hand 2 2 2;walk 2;");
        goes(near, 6, "works 2.0 for 9, walks 2");
        // The last hand has taken over at 11, at piece 1, and hand 1 has no coat since.
        HandToHand none = Tape.told("piece 1;piece 1;hand 9 9;hand 1 1;hand 1 1;walk 1;");
        goes(none, 11, "works 0.0 for 9, walks 1, works 1.0 for 1");
        goes(none, 1, "works 0.0 for 8, ready, walks 2");
        // The piece that she was at when it was done, left out or not, does not matter.
        HandToHand left = Tape.told("piece 1;piece 0;piece 0;hand 9 1 1;hand 1 1 1;walk 1;");
        goes(left, 1, "works 0.0 for 9, walks 3");
    }

    private static void newCoats() {
        Due.about("HAND 0 has a new coat of the next SORT of THE ROW at its first UNIT, and STANDS.");
        HandToHand x = Tape.told("piece 1;piece 1;sort 1 0 1;sort 2 1 0;row 1 2 0;hand 2 3;");
        looks("sort 1 has no piece 0", x, "works 1.0 for 3");
        goes(x, 3, "works 0.0 for 2");
        Due.same("sort 2", x.hand(0, 4), 2);
        goes(x, 2, "works 0.0 for 2");
        Due.same("sort 0", x.hand(0, 4), 0);
        goes(x, 5, "works 1.0 for 3");
        Due.same("sort 1 again", x.hand(0, 4), 1);
    }

    private static void takingOver() {
        Due.about("Any other one TAKES OVER, if the HAND ahead of her has a coat, STANDS, and it can be left there (not at a UNIT"
            + " above 0 of a WHOLE PIECE; fixed: only at a PIECE from the END of the one ahead on): she STANDS with it");
        // Hand 0 works from 1 on, till 10.
        HandToHand works = Tape.told("piece 2;hand 9;hand 1;");
        goes(works, 2, "works 0.0 for 8, ready");
        goes(works, 8, "works 0.0 for 9, works 0.1 for 1");
        // Hand 1 has made hers herself and is on her way, so that hand 2 has nobody to take over from.
        HandToHand none = Tape.told("piece 1;piece 1;hand 9 9;hand 1 1;hand 1 1;walk 1;");
        goes(none, 4, "works 0.0 for 7, walks 1, ready");
        HandToHand whole = Tape.told("piece 2;piece 2;whole 1;hand 3 3;hand 1 1;");
        // Hand 1 is ready at 4, hand 0 at piece 0 till 4, where unit 1 is no whole one.
        goes(whole, 4, "works 0.0 for 3, works 0.1 for 1");
        HandToHand first = Tape.told("piece 2;whole 0;hand 3;hand 1;");
        goes(first, 4, "works 0.1 for 3, ready");
        goes(first, 3, "stands 0.0, works 0.0 for 1");
        Due.same("at unit 0 it is left", first.now(2), 2);
        HandToHand fixed = Tape.told("piece 1;piece 1;piece 1;hand 2 2 2;hand 1 1 1;fixed 2;");
        looks("ahead of the end", fixed, "works 0.0 for 2, ready");
        goes(fixed, 2, "works 1.0 for 2, ready");
        goes(fixed, 2, "works 0.0 for 2, works 2.0 for 1");
        Due.same("from the end on", fixed.over(1, 0, 2), 2);
        // Beyond the end, too: sort 1 has no piece 2.
        HandToHand beyond = Tape.told("piece 1;piece 1;piece 1;piece 1;sort 1 1 1 0 1;row 1;hand 2 2 2 2;hand 1 1 1 1;fixed 2;");
        Due.same("beyond the end", beyond.over(1, 0, 2), 3);
        // The ends of others do not matter: hand 2 takes over of hand 1 only from 2 on.
        HandToHand three = Tape.told("piece 1;piece 1;piece 1;hand 1 1 1;hand 4 4 4;hand 1 1 1;fixed 1 2;");
        goes(three, 1, "works 0.0 for 1, works 1.0 for 4, ready");
        goes(three, 4, "works 0.0 for 1, works 1.0 for 4, works 2.0 for 1");
    }

    private static void wayBack() {
        Due.about("the one ahead has none and WALKS: WALK times (her PIECE less that of the HAND ahead of her; her PIECE, if that one"
            + " has no coat), HAND 0: 0 TICKS.");
        HandToHand zero = Tape.told("piece 1;piece 1;hand 2 2;hand 1 1;fixed 1;walk 5;");
        goes(zero, 2, "works 0.0 for 2, works 1.0 for 1");
        // At 5 hand 1 hands over at piece 2 while hand 0 is at piece 0.
        HandToHand far = Tape.told("piece 1;piece 1;piece 1;hand 9 9 9;hand 2 2 2;hand 1 1 1;fixed 1 2;walk 2;");
        goes(far, 9, "works 0.0 for 9, works 1.0 for 2, ready");
        goes(far, 2, "works 0.0 for 7, walks 4, works 2.0 for 1");
        HandToHand near = Tape.told("piece 1;piece 1;piece 1;hand 1 1 1;hand 2 2 2;hand 1 1 1;fixed 1 2;walk 2;");
        goes(near, 3, "stands 1.0, walks 2, works 2.0 for 1");
        // With walk 0 she is ready at once, and takes over again at the same tick.
        HandToHand no = Tape.told("piece 1;piece 1;piece 1;hand 1 1 1;hand 2 2 2;hand 1 1 1;fixed 1 2;");
        goes(no, 3, "works 0.0 for 1, works 1.0 for 2, works 2.0 for 1");
        // Hand 2 is handed over from while hand 1 has no coat: four hands, the last ready.
        HandToHand none = Tape.told("piece 1;piece 1;piece 1;piece 1;hand 9 9 9 9;hand 1 1 1 1;hand 2 2 2 2;hand 1 1 1 1;fixed 1 2 3;walk 1;");
        goes(none, 10, "works 0.0 for 8, walks 2, works 2.0 for 2, ready");
        goes(none, 2, "works 0.0 for 6, ready, walks 3, works 3.0 for 1");
    }

    private static void noTicksBack() {
        Due.about("(0 TICKS at least; who WALKS and has 0 TICKS left is READY, at once.)");
        // At 10 hand 1 hands over at piece 1 while hand 0 stands at piece 2 with a coat of sort 1: she takes it at once.
        HandToHand x = Tape.told("piece 1;piece 1;piece 1;sort 1 0 0 1;row 0 0 1;hand 1 1 1;hand 9 9 9;hand 1 1 1;walk 1;");
        goes(x, 9, "stands 2.0, works 0.0 for 1, ready");
        goes(x, 1, "works 0.0 for 1, stands 2.0, works 1.0 for 1");
        // Who comes back at the tick at which the one ahead stands takes over at that tick.
        HandToHand y = Tape.told("piece 1;piece 1;hand 2 2;hand 1 1;fixed 1;walk 1;");
        goes(y, 4, "stands 1.0, walks 1");
        goes(y, 1, "works 0.0 for 2, works 1.0 for 1");
    }

    private static void rules() {
        Due.about("zone: HAND i begins no UNIT of a PIECE from her END on (told for all but the last).");
        // Both are by 1; hand 1 is held off for long by her paces.
        HandToHand zone = Tape.told("piece 1;piece 1;piece 1;hand 1 1 1;hand 9 9 9;zone 2;");
        goes(zone, 9, "works 0.0 for 1, works 1.0 for 9");
        goes(zone, 1, "stands 1.0, works 1.0 for 8");
        goes(zone, 8, "works 1.0 for 1, works 2.0 for 9");
        goes(zone, 1, "stands 2.0, works 2.0 for 8");
        goes(zone, 8, "works 0.0 for 1, works 2.0 for 9");
        Due.same("at her end she waits till she is taken over from", zone.over(120, 1, 0) * 10 + zone.over(120, 1, 2), 272);
        // By back she works on, as hand 1 has no coat when it is her turn.
        HandToHand back = Tape.told("piece 1;piece 1;piece 1;hand 1 1 1;hand 9 9 9;");
        goes(back, 27, "works 2.0 for 1, ready");
        // An end of n is no end.
        HandToHand all = Tape.told("piece 1;piece 1;piece 1;hand 1 1 1;hand 9 9 9;zone 3;");
        goes(all, 27, "works 2.0 for 1, ready");
        // By zone a coat is taken over ahead of the end, too.
        HandToHand ahead = Tape.told("piece 1;piece 1;hand 1 1;hand 1 1;zone 1;");
        looks("at 0", ahead, "stands 0.0, works 0.0 for 1");

        Due.about("fixed: likewise, and a coat is taken over of HAND i only at a PIECE from her END on.");
        HandToHand fixed = Tape.told("piece 1;piece 1;piece 1;hand 1 1 1;hand 9 9 9;fixed 2;");
        goes(fixed, 2, "works 0.0 for 1, works 2.0 for 9");
        goes(fixed, 2, "stands 2.0, works 2.0 for 7");
        goes(fixed, 7, "works 0.0 for 1, works 2.0 for 9");
        HandToHand never = Tape.told("piece 1;piece 1;hand 3 3;hand 1 1;fixed 2;");
        goes(never, 60, "works 0.0 for 3, ready");
        Due.same("of an end of n nobody takes over", never.now(2) * 100 + never.now(1), 10);
    }

    private static void beginningUnits() {
        Due.about("a HAND who STANDS WORKS, if by the RULE she may begin a UNIT there (the last HAND always may), and the HAND behind"
            + " her has no coat or is at a later PIECE, or at a later UNIT of the same PIECE: PACE TICKS, less what she learnt.");
        HandToHand same = Tape.told("piece 2;piece 1;hand 1 1;hand 3 3;");
        looks("at the same unit", same, "stands 0.0, works 0.0 for 3");
        goes(same, 3, "works 0.0 for 1, works 0.1 for 3");
        goes(same, 1, "stands 0.1, works 0.1 for 2");
        goes(same, 2, "works 0.1 for 1, works 1.0 for 3");
        goes(same, 1, "stands 1.0, works 1.0 for 2");
        goes(same, 2, "works 1.0 for 1, ready");
        // At an earlier piece: hand 0 has a coat of sort 1, whose first piece is 2.
        HandToHand earlier = Tape.told("piece 1;piece 1;piece 2;sort 1 0 0 1;row 0 1;hand 1 1 1;hand 3 3 3;");
        looks("at an earlier piece", earlier, "stands 2.0, works 0.0 for 3");
        goes(earlier, 3, "stands 2.0, works 1.0 for 3");
        goes(earlier, 3, "stands 2.0, works 2.0 for 3");
        goes(earlier, 3, "works 2.0 for 1, works 2.1 for 3");
        // At an earlier piece, though at a later unit there.
        HandToHand unit = Tape.told("piece 0;piece 2;piece 1;sort 1 0 0 1;row 0 1;hand 1 1 1;hand 3 3 3;");
        goes(unit, 3, "stands 2.0, works 1.1 for 3");
        goes(unit, 3, "stands 2.0, works 2.0 for 3");
        goes(unit, 3, "works 2.0 for 1, ready");
        HandToHand last = Tape.told("piece 1;piece 1;hand 1 1;hand 2 2;zone 1;");
        goes(last, 2, "works 0.0 for 1, works 1.0 for 2");
        HandToHand one = Tape.told("piece 1;piece 1;hand 1 1;zone;");
        goes(one, 1, "works 1.0 for 1");
        HandToHand learns = Tape.told("piece 2;hand 5;learn 1;");
        goes(learns, 5, "works 0.1 for 4");
        goes(learns, 4, "works 0.0 for 3");
    }

    private static void oneAfterTheOther() {
        Due.about("HAND by HAND from the last one to the first, each at most one of these, again and again till none does anything");
        // At 1 hand 1 is done; it is hand 0's turn then, who begins before hand 1 could take over.
        HandToHand x = Tape.told("piece 1;hand 9;hand 1;");
        goes(x, 1, "works 0.0 for 9, ready");
        Due.same("one handing over", x.now(2), 1);
        // At 10 hand 0 is done, has a new coat, hand 1 takes it over, hand 0 has the next one.
        goes(x, 9, "stands 0.0, works 0.0 for 1");
        Due.same("two handings over", x.now(2) * 10 + x.now(1), 22);
        // At 1 hand 0 stands at piece 1; hand 1's turn comes ahead of hers.
        HandToHand y = Tape.told("piece 1;piece 1;hand 1 1;hand 1 1;fixed 1;");
        goes(y, 1, "works 0.0 for 1, works 1.0 for 1");
        // At 2 hand 1 is done and hand 0 stands at piece 1, all at once.
        goes(y, 1, "works 0.0 for 1, works 1.0 for 1");
        Due.same("done at 2", y.now(1) * 10 + y.now(2), 12);
    }

    private static void ticksThatAreLeft() {
        Due.about("Then all TICKS that are left go by as many as the least of them, above 0; if there are none, it is STUCK (whether it is"
            + " so is told as it is now).");
        // 9 of the one and 1 of the other: nothing is left out between.
        HandToHand x = Tape.told("piece 1;piece 1;hand 9 1;hand 1 5;zone 1;walk 2;");
        goes(x, 1, "works 0.0 for 9, works 1.0 for 5");
        goes(x, 5, "works 0.0 for 4, walks 4");
        goes(x, 4, "works 0.0 for 9, works 1.0 for 5");
        Due.about("STUCK: TICKS go all the same.");
        // The last hand always may work, and who can not be taken over from works: by no rule is it ever stuck.
        String[] texts = {"piece 1;hand 1;hand 1;fixed 1;", "piece 2;piece 2;whole 0;whole 1;hand 1 1;hand 9 9;hand 1 1;zone 1 1;",
            "piece 2;piece 2;whole 0;whole 1;hand 1 1;hand 9 9;hand 1 1;fixed 1 1;walk 5;",
            "piece 1;piece 1;sort 1 0 1;row 1 0;hand 1 1;hand 3 3;hand 2 2;fixed 2 2;",
            "piece 1;piece 1;piece 2;sort 1 0 0 1;row 0 1;hand 1 1 1;hand 3 3 3;zone 1;walk 3;"};
        for (String text : texts) {
            HandToHand y = Tape.told(text);
            for (int t = 0; t < 60; t++) {
                Due.same("stuck at " + t + ": " + text, y.now(3), 0);
                y.go(1);
            }
            Due.same("all ticks went", y.now(0), 60);
            Due.same("no run is stuck: " + text, y.run(120, 3) + y.run(1, 3), 0);
            Due.holds("all coats are done: " + text, y.run(120, 1) >= 120);
        }
    }

    private static void waiting() {
        Due.about("WAITING: TICKS that go by while a HAND STANDS, or is READY.");
        HandToHand x = Tape.told("piece 1;piece 1;hand 2 2;hand 1 1;fixed 1;walk 1;");
        // Hand 1 is ready till 2, works till 3, walks till 5; hand 0 stands from 4 to 5.
        Due.same("nobody at 0", x.hand(0, 5) * 10 + x.hand(1, 5), 0);
        x.go(1);
        Due.same("ready", x.hand(0, 5) * 10 + x.hand(1, 5), 1);
        x.go(1);
        Due.same("ready till 2", x.hand(0, 5) * 10 + x.hand(1, 5), 2);
        x.go(2);
        Due.same("not while they work or walk", x.hand(0, 5) * 10 + x.hand(1, 5), 2);
        x.go(1);
        Due.same("stands till 5", x.hand(0, 5) * 10 + x.hand(1, 5), 12);
    }

    // ---- calls

    private static void begin() {
        Due.about("THE BENCH begins anew, nothing learnt: how many coats were DONE.");
        HandToHand x = Tape.told("piece 1;row 0 1;hand 3;hand 2;learn 2;walk 1;");
        String first = Look.all(x);
        Due.same("none", x.begin(), 0);
        Due.same("as at first", Look.all(x), first);
        x.go(50);
        x.setPace(0, 0, 4);
        x.setPace(0, 0, 3);
        int done = x.now(1);
        Due.holds("some", done > 0 && x.learnt(1, 0) > 0 && x.hand(0, 5) > 0);
        Due.same("so many", x.begin(), done);
        Due.same("as at first again", Look.all(x), first);
        Due.same("none again", x.begin(), 0);
        x.setPace(1, 0, 9);
        x.begin();
        Due.same("what is told stays", x.pace(1, 0), 9);
        x.go(3);
        x.keep(1);
        x.begin();
        Due.same("images stay", x.back(1), 3);
        // The last of all hands at the last of all pieces, too.
        HandToHand most = Tape.told("piece 1;".repeat(8) + "hand 1 1 1 1 1 1 1 1;".repeat(5) + "learn 1;");
        String bench = Look.bench(most);
        most.go(500);
        Due.holds("she has learnt", most.learnt(4, 7) > 0);
        most.begin();
        Due.same("nothing is learnt", Look.bench(most), bench);
    }

    private static void go() {
        Due.about("t TICKS (1 to 9999) go: how many coats became DONE in them (at the last one, too). BAD.");
        HandToHand x = Tape.told("piece 1;hand 3;");
        for (int t : new int[] {0, -1, 10000, LOW, HIGH}) {
            Due.same("go " + t, x.go(t), BAD);
            Due.same("no tick goes", x.now(0), 0);
        }
        Due.same("ahead of the last", x.go(2), 0);
        Due.same("at the last", x.go(1), 1);
        Due.same("not the ones ahead", x.go(1), 0);
        Due.same("tick", x.now(0), 4);
        Due.same("two more", x.go(5), 2);
        Due.same("9999", x.go(9999), 3333);
        Due.same("all ticks", x.now(0), 10008);
        Due.same("all coats", x.now(1), 3336);
        // Each tick alone, or all at once.
        HandToHand one = Tape.told("piece 2;piece 1;hand 3 5;hand 2 4;hand 1 9;learn 4;walk 2;");
        HandToHand all = Tape.told("piece 2;piece 1;hand 3 5;hand 2 4;hand 1 9;learn 4;walk 2;");
        int done = 0;
        for (int i = 0; i < 200; i++) {
            done += one.go(1);
        }
        Due.same("all at once", all.go(200), done);
        Due.same("the same bench", Look.bench(all), Look.bench(one));
    }

    private static void night() {
        Due.about("HANDS lay down what they have, all are READY as at first (TICK, coats DONE, HANDINGS OVER, WAITED go on); what was"
            + " learnt stays, THE ROW begins anew: how many coats lay there.");
        HandToHand x = Tape.told("piece 1;piece 1;row 1 2 0;hand 2 2;hand 1 1;fixed 1;walk 1;");
        x.go(3);
        looks("ahead of the night", x, "works 0.0 for 1, walks 2");
        Due.same("who walks has none", x.night(), 1);
        looks("behind the night", x, "works 0.0 for 2, ready");
        Due.same("now", Look.row(4, x::now), "3 1 1 0 1");
        Due.same("the row", x.hand(0, 4), 1);
        Due.same("waited", x.hand(0, 5) * 10 + x.hand(1, 5), 2);
        Due.same("learnt", x.learnt(0, 0) * 100 + x.learnt(0, 1) * 10 + x.learnt(1, 1), 101);
        goes(x, 2, "works 0.0 for 2, works 1.0 for 1");
        Due.same("it goes on", Look.row(4, x::now), "5 1 2 0 2");
        Due.same("waited goes on", x.hand(1, 5), 4);
        Due.same("who stands or works has one", x.night(), 2);
        Due.same("no tick went by", x.now(0), 5);
        Due.same("one night behind the other", x.night(), 1);
    }

    private static void nightOverAll() {
        Due.about("The bench stands over night");
        HandToHand five = Tape.told("piece 6;hand 1;hand 1;hand 1;hand 1;hand 1;");
        Due.same("five coats", five.night(), 5);
        Due.same("ten handings over, and ten again", five.now(2), 20);
        Due.same("alone", Tape.told("piece 6;hand 1;").night(), 1);
        // A unit that is laid down midway was done for nothing.
        HandToHand x = Tape.told("piece 1;hand 9;learn 1;");
        x.go(8);
        x.night();
        goes(x, 8, "works 0.0 for 1");
        Due.same("nothing learnt yet", x.learnt(0, 0), 0);
        x.go(1);
        x.night();
        looks("what was learnt stays", x, "works 0.0 for 8");
        HandToHand y = Tape.told("piece 1;hand 2;");
        y.keep(0);
        y.night();
        Due.same("images stay", y.back(0), 0);
    }

    private static void now() {
        Due.about("Of THE BENCH: 0 TICK, 1 coats DONE, 2 HANDINGS OVER, 3 whether it is STUCK (1, 0), 4 the place in THE ROW of the"
            + " next new coat. BAD.");
        HandToHand x = Tape.told("piece 1;row 0 1 2;hand 2;hand 1;");
        Due.same("at 0", Look.row(4, x::now), "0 0 1 0 2");
        x.go(3);
        Due.same("at 3", Look.row(4, x::now), "3 2 2 0 1");
        for (int what : new int[] {-1, 5, 6, LOW, HIGH}) {
            Due.same("now " + what, x.now(what), BAD);
        }
        // More handings over than are kept of a run are counted.
        HandToHand many = Tape.told("piece 1;hand 1;hand 1;hand 1;hand 1;hand 1;");
        many.go(9999);
        Due.holds("more than 600", many.now(2) > 600 && many.now(1) == 9999);
    }

    private static void hand() {
        Due.about("Of a HAND: 0 what she does (0 READY, 1 WALKS, 2 STANDS, 3 WORKS), 1 TICKS left, 2 PIECE (NONE: no coat), 3 UNIT"
            + " (NONE), 4 SORT (NONE), 5 TICKS that she WAITED since it began. BAD.");
        HandToHand x = Tape.told("piece 1;piece 2;row 2 1;hand 2 2;hand 1 1;fixed 1;walk 1;");
        Due.same("ready", Look.row(5, what -> x.hand(1, what)), "0 0 -4 -4 -4 0");
        Due.same("works", Look.row(5, what -> x.hand(0, what)), "3 2 0 0 2 0");
        x.go(3);
        Due.same("works at unit 1", Look.row(5, what -> x.hand(1, what)), "3 1 1 1 2 2");
        x.go(1);
        // Her turn comes ahead of hand 0's, who is at piece 0 still.
        Due.same("walks", Look.row(5, what -> x.hand(1, what)), "1 2 -4 -4 -4 2");
        Due.same("stands", Look.row(5, what -> x.hand(0, what)), "2 0 1 0 1 0");
        for (int wrong : new int[] {-1, 2, 5, LOW, HIGH}) {
            Due.same("hand " + wrong, x.hand(wrong, 0), BAD);
        }
        for (int wrong : new int[] {-1, 6, LOW, HIGH}) {
            Due.same("what " + wrong, x.hand(0, wrong), BAD);
        }
        x.night();
        Due.same("waited since it began", x.hand(1, 5), 2);
        x.begin();
        Due.same("it begins", x.hand(1, 5), 0);
    }

    private static void learntAndTakes() {
        HandToHand x = Tape.told("piece 2;piece 1;hand 3 3;hand 2 9;learn 2;");
        x.go(4);
        Due.about("UNITS of a PIECE that a HAND has learnt by. BAD.");
        Due.same("hand 1", x.learnt(1, 0) * 10 + x.learnt(1, 1), 20);
        for (int wrong : new int[] {-1, 2, 5, 8, LOW, HIGH}) {
            Due.same("hand " + wrong, x.learnt(wrong, 0), BAD);
            Due.same("piece " + wrong, x.learnt(0, wrong), BAD);
        }
        Due.about("TICKS that a UNIT of a PIECE takes a HAND now. BAD.");
        Due.same("one less", x.takes(1, 0) * 10 + x.takes(1, 1), 19);
        x.setPace(1, 0, 5);
        Due.same("of what is told now", x.takes(1, 0), 4);
        x.setPace(1, 0, 1);
        Due.same("1 at least", x.takes(1, 0), 1);
        for (int wrong : new int[] {-1, 2, 5, 8, LOW, HIGH}) {
            Due.same("hand " + wrong, x.takes(wrong, 0), BAD);
            Due.same("piece " + wrong, x.takes(0, wrong), BAD);
        }
    }

    private static void keep() {
        Due.about("IMAGE i (0, 1) is THE BENCH as it is (with all that was learnt): whether there was one (1, 0). BAD.");
        HandToHand x = Tape.told("piece 1;hand 3;learn 1;");
        for (int wrong : new int[] {-1, 2, LOW, HIGH}) {
            Due.same("keep " + wrong, x.keep(wrong), BAD);
        }
        Due.same("none yet", x.count(0), 0);
        Due.same("0", x.keep(0), 0);
        Due.same("one", x.count(0), 1);
        x.go(4);
        String at4 = Look.bench(x);
        Due.same("1", x.keep(1), 0);
        Due.same("two", x.count(0), 2);
        x.go(1);
        Due.same("0 again", x.keep(0), 1);
        Due.same("two still", x.count(0), 2);
        Due.same("keeping changes nothing", x.now(0), 5);
        Due.same("0 is the later one", x.back(0), 5);
        Due.same("1 is the earlier one", x.back(1), 4);
        Due.same("all of it", Look.bench(x), at4);
    }

    private static void back() {
        Due.about("THE BENCH is as IMAGE i: its TICK. BAD; STATE: there is none.");
        HandToHand x = Tape.told("piece 1;hand 3;learn 1;");
        for (int wrong : new int[] {-1, 2, LOW, HIGH}) {
            Due.same("back " + wrong, x.back(wrong), BAD);
        }
        Due.same("no 0", x.back(0), STATE);
        Due.same("no 1", x.back(1), STATE);
        x.keep(1);
        Due.same("still no 0", x.back(0), STATE);
        x.go(9);
        Due.same("TICK 0", x.back(1), 0);
        x.go(7);
        Due.same("as often as may be", x.back(1), 0);
        Due.same("the image stays", x.count(0), 1);
        x.go(3);
        String later = Look.bench(x);
        Due.same("refused", x.back(0) * 10 + x.back(2), STATE * 10 + BAD);
        Due.same("the bench stays", Look.bench(x), later);
        // Paces are told, and are no part of the bench.
        x.setPace(0, 0, 7);
        x.back(1);
        Due.same("the pace stays", x.pace(0, 0), 7);
    }

    private static void imagesHaveAll() {
        Due.about("IMAGE i (0, 1) is THE BENCH as it is (with all that was learnt)");
        String text = "piece 2;piece 1;piece 3;sort 1 1 0 2;row 0 1 0;hand 3 5 2;hand 2 4 4;hand 1 9 1;learn 4;walk 2;";
        HandToHand x = Tape.told(text);
        HandToHand y = Tape.told(text);
        x.go(83);
        y.go(83);
        x.keep(1);
        x.go(40);
        x.keep(0);
        x.night();
        x.go(9);
        x.begin();
        x.back(1);
        Due.same("all is as it was", Look.bench(x), Look.bench(y));
        Due.same("and goes on as it did", x.go(40), y.go(40));
        Due.same("to the same", Look.bench(x), Look.bench(y));
        x.begin();
        x.back(0);
        Due.same("which was kept, too", Look.bench(x), Look.bench(y));
    }
}
