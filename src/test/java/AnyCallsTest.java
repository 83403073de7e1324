import com.sun.management.ThreadMXBean;
import java.lang.management.ManagementFactory;
import java.util.Arrays;
import java.util.Random;

/** Calls of all kinds in any order, with any numbers: none throws, the same calls answer the same, nothing old is answered. */
public final class AnyCallsTest {
    private static final int OBJECTS = 400, CALLS = 512;
    private static final int[] NUMBERS = {0, 1, 2, 3, 4, 5, 6, 7, 8, 9, 10, 11, 12, 20, 24, 40, 41, 119, 120, 121, 600,
        -1, -2, -20, 400, 9999, 10000, Integer.MAX_VALUE, Integer.MIN_VALUE, Integer.MAX_VALUE - 1};
    private static final long ROOM = 7300000;

    private static int spent;

    private AnyCallsTest() {
    }

    public static void main(String[] args) {
        for (int seed = 0; seed < OBJECTS; seed++) {
            HandToHand x = new HandToHand();
            HandToHand y = new HandToHand();
            Random forX = new Random(seed);
            Random forY = new Random(seed);
            // A text takes some fifty calls at most; behind its 512th call an object is free to answer as it likes.
            for (int left = CALLS; left > 50; left -= spent) {
                Due.same("object " + seed + ", " + left + " calls left", call(y, forY), call(x, forX));
            }
        }
        refusedChangeNothing();
        for (int seed = 0; seed < 60; seed++) {
            nothingOld(new Random(seed), "object " + seed + ": ");
        }
        room();
        Due.end();
    }

    private static int any(Random random) {
        return random.nextInt(3) > 0 ? random.nextInt(4) : NUMBERS[random.nextInt(NUMBERS.length)];
    }

    private static int tellSome(HandToHand x, Random r) {
        String text = text(r);
        spent = text.length() / 8 + 4;
        return Tape.tell(x, text);
    }

    private static long call(HandToHand x, Random r) {
        spent = 1;
        switch (r.nextInt(36)) {
            case 0: return x.feed(r.nextLong());
            case 1: return x.end(any(r));
            case 2: return r.nextInt(5) == 0 ? tellSome(x, r) : x.text();
            case 3: return x.fault();
            case 4: return x.rule(any(r));
            case 5: return x.units(any(r), any(r));
            case 6: return x.pace(any(r), any(r));
            case 7: return x.setPace(any(r), any(r), any(r));
            case 8: return x.begin();
            case 9: return x.go(any(r));
            case 10: return x.night();
            case 11: return x.now(any(r));
            case 12: return x.hand(any(r), any(r));
            case 13: return x.learnt(any(r), any(r));
            case 14: return x.takes(any(r), any(r));
            case 15: return x.keep(any(r));
            case 16: return x.back(any(r));
            case 17: return x.run(any(r), any(r));
            case 18: return x.waits(any(r), any(r));
            case 19: return x.over(any(r), any(r), any(r));
            case 20: return x.judge(any(r), any(r), any(r), any(r), any(r));
            case 21: return x.settles(any(r));
            case 22: return x.where(any(r), any(r));
            case 23: return x.makes(any(r));
            case 24: return x.could(any(r));
            case 25: return x.order(any(r), any(r));
            case 26: return x.best(any(r));
            case 27: return x.stands(any(r), any(r));
            case 28: return x.parts(any(r));
            case 29: return x.less(any(r), any(r));
            case 30: return x.sheet(any(r), any(r), any(r));
            case 31: return x.lay(any(r), any(r), any(r));
            case 32: return x.read(any(r), any(r), any(r), any(r), any(r));
            case 33: return x.torn();
            case 34: return x.count(any(r));
            default: return tellSome(x, r);
        }
    }

    private static String text(Random r) {
        StringBuilder b = new StringBuilder();
        int pieces = 1 + r.nextInt(8);
        int hands = 1 + r.nextInt(4);
        for (int p = 0; p < pieces; p++) {
            b.append("piece ").append(1 + r.nextInt(6)).append(';');
        }
        for (int h = 0; h < hands; h++) {
            b.append("hand");
            for (int p = 0; p < pieces; p++) {
                b.append(' ').append(1 + r.nextInt(9));
            }
            b.append(';');
        }
        b.append("walk ").append(r.nextInt(6)).append(';');
        b.append("learn ").append(r.nextBoolean() ? 0 : r.nextInt(100)).append(';');
        if (r.nextBoolean()) {
            b.append(r.nextBoolean() ? "zone" : "fixed");
            int low = 1;
            for (int h = 1; h < hands; h++) {
                low += r.nextInt(pieces - low + 1);
                b.append(' ').append(low);
            }
            b.append(';');
        }
        return b.toString();
    }

    private static long[] all(HandToHand x) {
        long[] all = new long[160];
        int n = 0;
        for (int what = 0; what < 25; what++) {
            all[n++] = x.rule(what);
        }
        for (int h = 0; h < 5; h++) {
            for (int p = 0; p < 8; p++) {
                all[n++] = x.pace(h, p) * 1000 + x.learnt(h, p);
            }
            for (int what = 0; what < 6; what++) {
                all[n++] = x.hand(h, what);
            }
        }
        for (int what = 0; what < 5; what++) {
            all[n++] = x.now(what);
            all[n++] = x.count(what);
        }
        all[n++] = x.torn();
        all[n] = x.fault();
        return all;
    }

    private static void refusedChangeNothing() {
        for (int seed = 0; seed < 200; seed++) {
            Random r = new Random(seed);
            HandToHand x = new HandToHand();
            for (int i = 0; i < 40; i++) {
                call(x, r);
            }
            long[] before = all(x);
            x.feed(x.count(1) > 392 ? 1 : 0);
            x.end(x.count(1) > 392 ? x.count(1) : x.count(1) - 8);
            x.setPace(0, 0, 10);
            x.setPace(5, 0, 1);
            x.go(0);
            x.go(10000);
            x.keep(2);
            x.back(2);
            x.sheet(0, 0, -1);
            x.sheet(0, 0, 41);
            x.lay(0, 40, 1);
            x.read(0, 0, 0, 0, 6);
            x.read(4, 0, 0, 0, 1);
            x.run(121, 0);
            x.less(5, 0);
            x.parts(2);
            x.order(120, 0);
            Due.holds("refused, seed " + seed, Arrays.equals(all(x), before));
        }
    }

    /** Answers that are found by running are as those of a new object that was told the same. */
    private static void nothingOld(Random r, String name) {
        HandToHand x = new HandToHand();
        String text = text(r);
        Tape.tell(x, text);
        ask(x);
        if (r.nextBoolean()) {
            text = text(r);
            Tape.tell(x, text);
            ask(x);
        }
        if (r.nextBoolean()) {
            x.setPace(0, 0, 1 + r.nextInt(9));
        } else {
            x.sheet(2, 2, 40);
            for (int i = 0; i < 40; i++) {
                x.lay(2, i, 1 + r.nextInt(9));
            }
            x.read(2, 2, r.nextInt(40), 0, 1);
        }
        HandToHand y = new HandToHand();
        Tape.tell(y, text);
        for (int h = 0; h < 5; h++) {
            for (int p = 0; p < 8; p++) {
                y.setPace(h, p, x.pace(h, p));
            }
        }
        long[] got = ask(x);
        long[] want = ask(y);
        for (int i = 0; i < want.length; i++) {
            Due.same(name + "answer " + i, got[i], want[i]);
        }
    }

    private static long[] ask(HandToHand x) {
        return new long[] {x.run(7, 0), x.run(7, 4), x.over(7, 3, 0), x.waits(7, 0), x.judge(0, 0, 1, 0, 0), x.settles(0),
            x.settles(2), x.where(1, 0), x.where(1, 2), x.makes(0), x.makes(1), x.could(0), x.could(1), x.order(1, 1),
            x.best(0), x.best(2), x.best(3), x.parts(1), x.parts(10), x.less(0, 1), x.run(120, 0), x.order(0, 1)};
    }

    /** All calls of a run live in one room of 7.3 million fields and elements: 512 calls, the dearest among them, make fewer bytes. */
    private static void room() {
        ThreadMXBean threads = (ThreadMXBean) ManagementFactory.getThreadMXBean();
        long me = Thread.currentThread().getId();
        String told = "piece 3;piece 2;hand 1 2;hand 3 4;hand 2 2;hand 1 1;hand 4 2;zone 1 2 2 2;learn 9;";
        Tape.told(told);
        long before = threads.getThreadAllocatedBytes(me);
        HandToHand x = new HandToHand();
        for (int round = 0; round < 5; round++) {
            Tape.feed(x, told);
            x.text();
            for (int i = 0; i < 4; i++) {
                x.setPace(0, 0, 1 + i);
                x.go(9999);
                x.night();
                x.keep(i % 2);
                x.back(i % 2);
                x.best(0);
                x.order(i, 0);
                x.stands(i, 0);
                x.parts(0);
                x.less(i, 0);
                x.run(120, 0);
                x.over(100, 0, 0);
                x.judge(0, 0, 0, 0, 0);
                x.settles(0);
                x.where(1, 0);
                x.could(0);
                x.sheet(i, i % 3, 40);
                x.lay(i, 0, 1);
                x.read(i, i % 3, 0, 0, 5);
                x.begin();
            }
        }
        long made = threads.getThreadAllocatedBytes(me) - before;
        Due.holds("an object and its calls made " + made + " bytes", made < ROOM);
    }
}
