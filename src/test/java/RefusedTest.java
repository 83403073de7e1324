import java.util.ArrayList;
import java.util.List;
import java.util.function.ToLongFunction;

/** What is refused changes nothing: each call that refuses, on an object of which all is looked at behind it. */
public final class RefusedTest {
    private static final int BAD = HandToHand.BAD, STATE = HandToHand.STATE, FULL = HandToHand.FULL, NONE = HandToHand.NONE;
    private static final int LOW = Integer.MIN_VALUE, HIGH = Integer.MAX_VALUE;
    private static final String TOLD = "piece 2;piece 1;whole 0;sort 1 1 3;row 0 1;hand 3 2;hand 1 4;walk 1;learn 3;zone 1;";
    private static final String ON_THE_TAPE = "piece 3;hand 8;walk 2;";

    private record Refused(String name, ToLongFunction<HandToHand> call, long answer) {
    }

    private static final List<Refused> ALL = new ArrayList<>();

    private RefusedTest() {
    }

    public static void main(String[] args) {
        Due.about("what is refused changes nothing (but THE TAPE, as told)");
        textCalls();
        benchCalls();
        runCalls();
        orderCalls();
        sheetCalls();
        String untouched = everything(made());
        for (Refused r : ALL) {
            HandToHand x = made();
            Due.same(r.name(), r.call().applyAsLong(x), r.answer());
            Due.same("all behind " + r.name(), everything(x), untouched);
        }
        tapeThatIsFull();
        answersThatAreKept();
        firstThatFits();
        Due.end();
    }

    private static void refuses(String name, ToLongFunction<HandToHand> call, long answer) {
        ALL.add(new Refused(name, call, answer));
    }

    /** An object that has something of all: told things, a bench midway, an image, sheets, faults, bytes on the tape. */
    private static HandToHand made() {
        HandToHand x = new HandToHand();
        Tape.tell(x, TOLD);
        x.go(33);
        x.keep(0);
        x.go(8);
        x.sheet(0, 0, 3);
        x.sheet(2, 2, 2);
        for (int i = 0; i < 3; i++) {
            x.lay(0, i, i + 2);
            x.lay(2, i, i + 6);
        }
        x.read(0, 1, 0, 0, 1);
        Tape.tell(x, "walk 1;walk 1;");
        Tape.feed(x, ON_THE_TAPE);
        return x;
    }

    /** All that can be seen, the last of it by calls that change it. */
    private static String everything(HandToHand x) {
        StringBuilder b = new StringBuilder(Look.all(x));
        b.append(" images ").append(x.back(1)).append(' ').append(x.back(0)).append(' ').append(Look.bench(x));
        b.append(" tape ").append(x.text()).append(' ').append(Look.told(x));
        for (int k = 0; k < 4; k++) {
            for (int lane = 0; lane < 3; lane++) {
                for (int f = 0; f < 4; f++) {
                    b.append(k + lane + f == 0 ? " sheets " : " ").append(x.read(k, lane, f, 0, 1)).append(x.torn()).append(x.pace(0, 0));
                }
            }
        }
        return b.toString();
    }

    private static void textCalls() {
        for (int n : new int[] {-1, 23, 400, LOW, HIGH}) {
            refuses("end " + n, x -> x.end(n), BAD);
        }
        for (int what : new int[] {-1, 7, 9, 12, 19, 22, LOW, HIGH}) {
            refuses("rule " + what, x -> x.rule(what), BAD);
        }
        for (int[] w : new int[][] {{-1, 0}, {3, 0}, {0, -1}, {0, 2}, {LOW, HIGH}}) {
            refuses("units " + w[0] + " " + w[1], x -> x.units(w[0], w[1]), BAD);
        }
        for (int[] w : new int[][] {{-1, 0}, {2, 0}, {0, -1}, {0, 2}, {LOW, HIGH}}) {
            refuses("pace " + w[0] + " " + w[1], x -> x.pace(w[0], w[1]), BAD);
            refuses("setPace " + w[0] + " " + w[1], x -> x.setPace(w[0], w[1], 5), BAD);
            refuses("learnt " + w[0] + " " + w[1], x -> x.learnt(w[0], w[1]), BAD);
            refuses("takes " + w[0] + " " + w[1], x -> x.takes(w[0], w[1]), BAD);
        }
        for (int v : new int[] {0, 10, -1, LOW, HIGH}) {
            refuses("setPace to " + v, x -> x.setPace(1, 1, v), BAD);
        }
    }

    private static void benchCalls() {
        for (int t : new int[] {0, -1, 10000, LOW, HIGH}) {
            refuses("go " + t, x -> x.go(t), BAD);
        }
        for (int what : new int[] {-1, 5, LOW, HIGH}) {
            refuses("now " + what, x -> x.now(what), BAD);
        }
        for (int[] w : new int[][] {{-1, 0}, {2, 0}, {0, -1}, {0, 6}, {LOW, HIGH}}) {
            refuses("hand " + w[0] + " " + w[1], x -> x.hand(w[0], w[1]), BAD);
        }
        for (int i : new int[] {-1, 2, LOW, HIGH}) {
            refuses("keep " + i, x -> x.keep(i), BAD);
            refuses("back " + i, x -> x.back(i), BAD);
        }
        refuses("back to none", x -> x.back(1), STATE);
    }

    private static void runCalls() {
        for (int m : new int[] {0, -1, 121, LOW, HIGH}) {
            refuses("run " + m, x -> x.run(m, 0), BAD);
            refuses("waits " + m, x -> x.waits(m, 0), BAD);
            refuses("over " + m, x -> x.over(m, 0, 0), BAD);
        }
        for (int w : new int[] {-1, 6, LOW, HIGH}) {
            refuses("run what " + w, x -> x.run(1, w), BAD);
            refuses("waits of " + w, x -> x.waits(1, w), BAD);
            refuses("over what " + w, x -> x.over(1, 0, w), BAD);
            refuses("settles " + w, x -> x.settles(w), BAD);
            refuses("where of " + w, x -> x.where(w, 0), BAD);
            refuses("where what " + w, x -> x.where(1, w), BAD);
            refuses("makes " + w, x -> x.makes(w), BAD);
            refuses("could " + w, x -> x.could(w), BAD);
            refuses("best " + w, x -> x.best(w), BAD);
            refuses("count " + w, x -> x.count(w), BAD);
        }
        for (int k : new int[] {-1, 600, LOW, HIGH}) {
            refuses("over of " + k, x -> x.over(120, k, 0), BAD);
            refuses("judge of " + k, x -> x.judge(k, 0, 1, 0, 0), BAD);
        }
        refuses("where of 0", x -> x.where(0, 0), BAD);
        refuses("judge that is wrong", x -> x.judge(0, 1, 1, 1, 1), 1);
    }

    private static void orderCalls() {
        for (int w : new int[] {-1, 2, LOW, HIGH}) {
            refuses("order " + w, x -> x.order(w, 0), BAD);
            refuses("order what " + w, x -> x.order(0, w), BAD);
            refuses("stands " + w, x -> x.stands(w, 0), BAD);
            refuses("stands at " + w, x -> x.stands(0, w), BAD);
            refuses("parts " + w, x -> x.parts(w), BAD);
            refuses("less " + w, x -> x.less(w, 0), BAD);
            refuses("less what " + w, x -> x.less(0, w), BAD);
        }
        refuses("parts of the last", x -> x.parts(11), BAD);
    }

    private static void sheetCalls() {
        for (int k : new int[] {-1, 4, LOW, HIGH}) {
            refuses("sheet " + k, x -> x.sheet(k, 0, 3), BAD);
            refuses("lay " + k, x -> x.lay(k, 0, 3), BAD);
            refuses("read " + k, x -> x.read(k, 0, 0, 0, 1), BAD);
        }
        for (int lane : new int[] {-1, 3, LOW, HIGH}) {
            refuses("sheet of lane " + lane, x -> x.sheet(0, lane, 3), BAD);
            refuses("read of lane " + lane, x -> x.read(0, lane, 0, 0, 1), BAD);
        }
        for (int n : new int[] {41, HIGH}) {
            refuses("sheet of " + n, x -> x.sheet(0, 0, n), BAD);
        }
        for (int n : new int[] {-1, LOW}) {
            refuses("sheet of " + n, x -> x.sheet(0, 0, n), -14);
        }
        for (int i : new int[] {-1, 3, LOW, HIGH}) {
            refuses("lay at " + i, x -> x.lay(0, i, 9), -12);
            refuses("lay on nothing at " + i, x -> x.lay(1, i, 9), -11);
        }
        for (int[] w : new int[][] {{-1, 1}, {2, 1}, {0, -1}, {0, 3}, {0, 6}, {1, 2}, {HIGH, 1}, {1, HIGH}, {LOW, LOW}}) {
            refuses("read of hands " + w[0] + " " + w[1], x -> x.read(0, 0, 0, w[0], w[1]), BAD);
        }
        // What the machine refuses once more, as it was refused ahead, leaves all as it was, too.
        refuses("read as of another lane", x -> x.read(0, 1, 0, 0, 1), 0);
    }

    // ---- what a refused call on other objects leaves

    private static void tapeThatIsFull() {
        Due.about("FULL: more than 400.");
        for (int n : new int[] {393, 396, 400}) {
            HandToHand x = new HandToHand();
            Tape.feed(x, ON_THE_TAPE + " ".repeat(n - ON_THE_TAPE.length()));
            x.go(5);
            String all = Look.all(x);
            Due.same("feed at " + n, x.feed(0x3F3F3F3F3F3F3F3FL), FULL);
            Due.same("all behind it", Look.all(x), all);
            Due.same("the tape behind it", x.text(), 3);
        }
    }

    /** Answers that were found by running are not lost, nor changed, by calls that are refused. */
    private static void answersThatAreKept() {
        Due.about("what is refused changes nothing (but THE TAPE, as told)");
        HandToHand x = made();
        String before = found(x);
        for (Refused r : ALL) {
            r.call().applyAsLong(x);
        }
        Due.same("behind all that is refused", found(x), before);
        x.read(2, 2, 0, 1, 1);
        Due.holds("paces that were told make a difference", !found(x).equals(before));
        HandToHand y = made();
        y.setPace(1, 0, 0);
        y.setPace(1, 1, 10);
        Due.same("paces that were refused make none", found(y), before);
        y.lay(0, 1, 0);
        Due.same("a bad pace", y.read(0, 0, 0, 0, 1), -20);
        Due.same("makes none either", found(y), before);
    }

    private static String found(HandToHand x) {
        return Look.row(5, i -> x.run(9, i)) + " " + Look.row(2, x::settles) + " " + Look.row(3, x::best) + " " + Look.row(1, x::parts);
    }

    private static void firstThatFits() {
        Due.about("the first that fits");
        HandToHand alone = Tape.told("piece 1;hand 9;learn 99;");
        Due.same("BAD ahead of STATE: less", alone.less(0, 2), BAD);
        Due.same("BAD ahead of STATE: back", alone.back(2), BAD);
        Due.same("BAD ahead of NONE: settles", alone.settles(3), BAD);
        Due.same("BAD ahead of NONE: where", alone.where(1, 0), BAD);
        HandToHand fewer = Tape.told("piece 1;hand 9;hand 9;learn 99;");
        Due.same("BAD ahead of NONE: where what", fewer.where(1, 4), BAD);
        Due.same("BAD ahead of NONE: parts", fewer.parts(2), BAD);
        Due.same("BAD ahead of NONE: hand", fewer.hand(0, 6), BAD);
        Due.same("NONE: settles", fewer.settles(0), NONE);
        Due.same("NONE: where", fewer.where(1, 0), NONE);
        Due.same("NONE: parts", fewer.parts(0), NONE);
        Due.same("BAD ahead of a FAULT: sheet", fewer.sheet(4, 0, -1), BAD);
        Due.same("BAD ahead of a FAULT: lay", fewer.lay(4, 0, 0), BAD);
        Due.same("BAD ahead of a FAULT: read", fewer.read(0, 0, 0, 0, 3), BAD);
    }
}
