import java.math.BigInteger;
import java.util.ArrayList;
import java.util.List;
import java.util.Random;

/** Many benches of all kinds, each looked at against the plain model. */
public final class ModelTest {
    private static final int NONE = HandToHand.NONE, BAD = HandToHand.BAD;
    private static final int BENCHES = 400;
    private static final List<String> DOES = List.of("READY", "WALKS", "STANDS", "WORKS");

    private ModelTest() {
    }

    public static void main(String[] args) {
        int rings = 0;
        for (int seed = 0; seed < BENCHES; seed++) {
            Random random = new Random(seed);
            Model.Setup setup = setup(random);
            String name = "bench " + seed + " (" + setup.text() + ") ";
            goes(name, setup, random);
            runs(name, setup, random);
            settles(name, setup);
            rings += Model.settle(setup) == null ? 0 : 1;
            if (setup.hands() < 5 || seed % 10 == 0) {
                orders(name, setup);
            }
            partsAndLess(name, setup);
        }
        Due.holds("most come to a ring", rings > BENCHES / 2);
        Due.holds("not all do", rings < BENCHES);
        Due.end();
    }

    private static Model.Setup setup(Random random) {
        Model.Setup s = new Model.Setup();
        int pieces = 1 + random.nextInt(8);
        int hands = 1 + random.nextInt(5);
        s.whole = new boolean[pieces];
        for (int i = 0; i < 3; i++) {
            s.units[i] = new int[pieces];
            boolean asFirst = i > 0 && random.nextInt(3) == 0;
            for (int p = 0; p < pieces; p++) {
                s.units[i][p] = asFirst ? s.units[0][p] : Math.max(0, random.nextInt(8) - 1);
            }
            if (java.util.Arrays.stream(s.units[i]).sum() == 0) {
                s.units[i][random.nextInt(pieces)] = 1;
            }
        }
        for (int p = 0; p < pieces; p++) {
            s.whole[p] = random.nextInt(4) == 0;
        }
        int row = 1 + random.nextInt(random.nextBoolean() ? 6 : 2);
        for (int i = 0; i < row; i++) {
            s.row.add(random.nextInt(3));
        }
        int most = random.nextBoolean() ? 9 : 3;
        for (int h = 0; h < hands; h++) {
            int[] paces = new int[pieces];
            for (int p = 0; p < pieces; p++) {
                paces[p] = 1 + random.nextInt(most);
            }
            s.paces.add(paces);
        }
        s.walk = random.nextBoolean() ? 0 : random.nextInt(6);
        s.learn = random.nextInt(3) > 0 ? 0 : 1 + random.nextInt(random.nextBoolean() ? 99 : 6);
        s.rule = List.of("back", "zone", "fixed").get(random.nextInt(3));
        if (!s.rule.equals("back")) {
            int low = 1;
            for (int h = 0; h < hands - 1; h++) {
                low += random.nextInt(pieces - low + 1);
                s.ends.add(low);
            }
        }
        return s;
    }

    private static void alike(String name, HandToHand x, Model m) {
        Due.same(name + "tick", x.now(0), m.tick);
        Due.same(name + "done", x.now(1), m.done);
        Due.same(name + "handings over", x.now(2), m.taken);
        Due.same(name + "stuck", x.now(3), m.stuck() ? 1 : 0);
        Due.same(name + "place", x.now(4), m.next);
        for (int h = 0; h < m.hands.size(); h++) {
            Model.Hand hand = m.hands.get(h);
            Due.same(name + "does " + h, x.hand(h, 0), DOES.indexOf(hand.does));
            Due.same(name + "left " + h, x.hand(h, 1), hand.left);
            Due.same(name + "piece " + h, x.hand(h, 2), hand.coat == null ? NONE : hand.coat.piece);
            Due.same(name + "unit " + h, x.hand(h, 3), hand.coat == null ? NONE : hand.coat.unit);
            Due.same(name + "sort " + h, x.hand(h, 4), hand.coat == null ? NONE : hand.coat.sort);
            Due.same(name + "waited " + h, x.hand(h, 5), hand.waited);
            int p = (h + m.tick) % m.setup.pieces();
            Due.same(name + "learnt " + h, x.learnt(h, p), hand.learnt[p]);
            Due.same(name + "takes " + h, x.takes(h, p), m.takes(h, p));
        }
    }

    /** The bench goes on by calls of all kinds; a new object, as no object is asked more than 512 times. */
    private static void goes(String name, Model.Setup told, Random random) {
        Model.Setup setup = told.copy();
        HandToHand x = Tape.told(setup.text());
        Model m = new Model(setup);
        Model[] images = new Model[2];
        alike(name, x, m);
        for (int i = 0; i < 6; i++) {
            int call = random.nextInt(8);
            int k = random.nextInt(2);
            if (call == 0) {
                Due.same(name + "night", x.night(), m.night());
            } else if (call == 1) {
                Due.same(name + "keep", x.keep(k), images[k] == null ? 0 : 1);
                images[k] = m.copy();
            } else if (call == 2 && images[k] != null) {
                m = images[k].copy();
                Due.same(name + "back", x.back(k), m.tick);
            } else if (call == 3) {
                int h = random.nextInt(setup.hands());
                int p = random.nextInt(setup.pieces());
                int v = 1 + random.nextInt(9);
                Due.same(name + "setPace", x.setPace(h, p, v), setup.paces.get(h)[p]);
                setup.paces.get(h)[p] = v;
            } else if (call == 4 && i > 3) {
                Due.same(name + "begin", x.begin(), m.done);
                m = new Model(setup);
            } else {
                int ticks = 1 + random.nextInt(random.nextBoolean() ? 20 : 300);
                int before = m.done;
                for (int t = 0; t < ticks; t++) {
                    m.tickOnce();
                }
                Due.same(name + "go", x.go(ticks), m.done - before);
            }
            alike(name + "call " + i + " ", x, m);
        }
    }

    private static int mostStood(Model m) {
        int most = NONE;
        for (int p = 0; p < m.setup.pieces(); p++) {
            if (m.stood[p] > 0 && (most == NONE || m.stood[p] > m.stood[most])) {
                most = p;
            }
        }
        return most;
    }

    private static void runs(String name, Model.Setup setup, Random random) {
        HandToHand x = Tape.told(setup.text());
        x.go(1 + random.nextInt(99));
        for (int m : new int[] {1, 2 + random.nextInt(118), 120}) {
            Model b = Model.run(setup, m);
            Due.same(name + "run 0", x.run(m, 0), b.tick);
            Due.same(name + "run 1", x.run(m, 1), b.done);
            Due.same(name + "run 2", x.run(m, 2), b.taken);
            Due.same(name + "run 3", x.run(m, 3), b.stuck() && b.done < m ? 1 : 0);
            Due.same(name + "run 4", x.run(m, 4), b.hands.stream().mapToInt(h -> h.waited).sum());
            Due.same(name + "run 5", x.run(m, 5), mostStood(b));
            for (int h = 0; h < setup.hands(); h++) {
                Due.same(name + "waits", x.waits(m, h), b.hands.get(h).waited);
            }
            for (int i = 0; i < 10 && b.taken > 0; i++) {
                int k = i == 0 ? b.taken - 1 : random.nextInt(b.taken);
                for (int what = 0; what < 5; what++) {
                    Due.same(name + "over", x.over(m, k, what), b.overs.get(k)[what]);
                }
                if (m == 120) {
                    judges(name, x, k, b.overs.get(k).clone(), random);
                }
            }
            Due.same(name + "over, beyond", x.over(m, b.taken, 0), BAD);
        }
    }

    private static void judges(String name, HandToHand x, int k, int[] over, Random random) {
        Due.same(name + "judge", x.judge(k, over[0], over[1], over[2], over[3]), 0);
        int first = 4;
        for (int i = 3; i >= 0; i--) {
            if (random.nextBoolean()) {
                over[i] += random.nextBoolean() ? 1 : -1;
                first = i;
            }
        }
        Due.same(name + "judge", x.judge(k, over[0], over[1], over[2], over[3]), first == 4 ? 0 : first + 1);
    }

    private static void settles(String name, Model.Setup setup) {
        HandToHand x = Tape.told(setup.text());
        int[] ring = Model.settle(setup);
        for (int what = 0; what < 3; what++) {
            Due.same(name + "settles", x.settles(what), ring == null ? NONE : ring[what]);
        }
        long[] makes = Model.makes(setup);
        BigInteger[] could = Model.could(setup);
        for (int what = 0; what < 2; what++) {
            Due.same(name + "makes", x.makes(what), makes[what]);
            Due.same(name + "could", x.could(what), could[what].longValueExact());
        }
        Model b = Model.run(setup, 120);
        for (int h = 1; h < setup.hands(); h++) {
            List<int[]> there = new ArrayList<>();
            for (int[] over : b.overs) {
                if (ring != null && over[1] == h && over[0] > ring[3] && over[0] <= ring[3] + ring[2]) {
                    there.add(over);
                }
            }
            boolean same = there.stream().map(o -> o[2] * 10 + o[3]).distinct().count() == 1;
            Due.same(name + "where 0", x.where(h, 0), ring == null ? NONE : there.size());
            Due.same(name + "where 1", x.where(h, 1), ring == null ? NONE : same ? 1 : 0);
            Due.same(name + "where 2", x.where(h, 2), there.isEmpty() ? NONE : there.get(0)[2]);
            Due.same(name + "where 3", x.where(h, 3), there.isEmpty() ? NONE : there.get(0)[3]);
        }
    }

    private static void orders(String name, Model.Setup setup) {
        HandToHand x = Tape.told(setup.text());
        List<List<Integer>> orders = Model.orders(setup.hands());
        int best = 0;
        int ringless = 0;
        List<long[]> all = new ArrayList<>();
        for (List<Integer> order : orders) {
            long[] makes = Model.makes(Model.ordered(setup, order));
            all.add(makes);
            ringless += makes[0] == 0 ? 1 : 0;
            best = Model.more(makes, all.get(best)) ? all.size() - 1 : best;
        }
        Due.same(name + "orders", x.count(3), orders.size());
        Due.same(name + "best 0", x.best(0), best);
        Due.same(name + "best 1", x.best(1), all.get(best)[0]);
        Due.same(name + "best 2", x.best(2), all.get(best)[1]);
        Due.same(name + "best 3", x.best(3), ringless);
        for (int q = 0; q < orders.size(); q += 1 + orders.size() / 30) {
            Due.same(name + "order 0", x.order(q, 0), all.get(q)[0]);
            Due.same(name + "order 1", x.order(q, 1), all.get(q)[1]);
            for (int i = 0; i < setup.hands(); i++) {
                Due.same(name + "stands", x.stands(q, i), orders.get(q).get(i));
            }
        }
    }

    private static void partsAndLess(String name, Model.Setup setup) {
        HandToHand x = Tape.told(setup.text());
        Model.Setup best = null;
        for (List<Integer> ends : Model.allEnds(setup.hands(), setup.pieces())) {
            Model.Setup s = setup.copy();
            s.rule = "fixed";
            s.ends = ends;
            best = best == null || Model.more(Model.makes(s), Model.makes(best)) ? s : best;
        }
        Due.same(name + "there are parts", best == null ? 1 : 0, setup.pieces() < setup.hands() ? 1 : 0);
        long[] most = best == null ? new long[] {NONE, NONE} : Model.makes(best);
        Due.same(name + "parts 0", x.parts(0), most[0]);
        Due.same(name + "parts 1", x.parts(1), most[1]);
        for (int i = 0; i < setup.hands() - 1; i++) {
            Due.same(name + "parts 10", x.parts(10 + i), best == null ? NONE : best.ends.get(i));
        }
        for (int h = 0; h < setup.hands() && setup.hands() > 1; h++) {
            long[] makes = Model.makes(Model.without(setup, h));
            Due.same(name + "less 0", x.less(h, 0), makes[0]);
            Due.same(name + "less 1", x.less(h, 1), makes[1]);
        }
    }
}
