import java.math.BigInteger;
import java.util.ArrayList;
import java.util.Arrays;
import java.util.HashMap;
import java.util.List;
import java.util.Map;

/** The document's bench once more, written apart from the class and as plainly as may be: one tick at a time. */
final class Model {
    /** What is told. */
    static final class Setup {
        int[][] units = new int[3][];
        boolean[] whole;
        List<Integer> row = new ArrayList<>();
        List<int[]> paces = new ArrayList<>();
        List<Integer> ends = new ArrayList<>();
        String rule = "back";
        int walk;
        int learn;

        int pieces() {
            return whole.length;
        }

        int hands() {
            return paces.size();
        }

        Setup copy() {
            Setup s = new Setup();
            for (int i = 0; i < 3; i++) {
                s.units[i] = units[i].clone();
            }
            s.whole = whole.clone();
            s.row = new ArrayList<>(row);
            for (int[] p : paces) {
                s.paces.add(p.clone());
            }
            s.ends = new ArrayList<>(ends);
            s.rule = rule;
            s.walk = walk;
            s.learn = learn;
            return s;
        }

        String text() {
            StringBuilder b = new StringBuilder();
            for (int p = 0; p < pieces(); p++) {
                b.append("piece ").append(units[0][p]).append(';');
            }
            for (int p = 0; p < pieces(); p++) {
                if (whole[p]) {
                    b.append("whole ").append(p).append(';');
                }
            }
            for (int s = 1; s < 3; s++) {
                if (!Arrays.equals(units[s], units[0])) {
                    b.append("sort ").append(s).append(numbers(units[s])).append(';');
                }
            }
            b.append("row");
            for (int s : row) {
                b.append(' ').append(s);
            }
            b.append(';');
            for (int[] p : paces) {
                b.append("hand").append(numbers(p)).append(';');
            }
            b.append(rule);
            for (int e : ends) {
                b.append(' ').append(e);
            }
            b.append(";walk ").append(walk).append(";learn ").append(learn).append(';');
            return b.toString();
        }

        private static String numbers(int[] all) {
            StringBuilder b = new StringBuilder();
            for (int v : all) {
                b.append(' ').append(v);
            }
            return b.toString();
        }
    }

    static final class Coat {
        final int sort;
        int piece;
        int unit;

        Coat(int sort, int piece) {
            this.sort = sort;
            this.piece = piece;
        }
    }

    static final class Hand {
        String does = "READY";
        int left;
        Coat coat;
        int waited;
        int[] learnt = new int[8];
    }

    final Setup setup;
    List<Hand> hands = new ArrayList<>();
    int tick;
    int done;
    int taken;
    int next;
    int[] stood = new int[8];
    List<int[]> overs = new ArrayList<>();

    Model(Setup setup) {
        this.setup = setup;
        for (int h = 0; h < setup.hands(); h++) {
            hands.add(new Hand());
        }
        rest();
    }

    Model copy() {
        Model m = new Model(setup);
        m.hands.clear();
        for (Hand h : hands) {
            Hand g = new Hand();
            g.does = h.does;
            g.left = h.left;
            g.waited = h.waited;
            g.learnt = h.learnt.clone();
            if (h.coat != null) {
                g.coat = new Coat(h.coat.sort, h.coat.piece);
                g.coat.unit = h.coat.unit;
            }
            m.hands.add(g);
        }
        m.tick = tick;
        m.done = done;
        m.taken = taken;
        m.next = next;
        m.stood = stood.clone();
        m.overs = new ArrayList<>(overs);
        return m;
    }

    int takes(int h, int piece) {
        int pace = setup.paces.get(h)[piece];
        if (setup.learn > 0) {
            for (int times = 1; times * setup.learn <= hands.get(h).learnt[piece]; times++) {
                pace--;
            }
        }
        return Math.max(1, pace);
    }

    private int end(int h) {
        return setup.rule.equals("back") || h == setup.hands() - 1 ? setup.pieces() : setup.ends.get(h);
    }

    private int way(int h, int from) {
        if (h == 0) {
            return 0;
        }
        Coat ahead = hands.get(h - 1).coat;
        return Math.max(0, setup.walk * (ahead == null ? from : from - ahead.piece));
    }

    private void sendBack(int h, int from) {
        Hand hand = hands.get(h);
        hand.coat = null;
        hand.left = way(h, from);
        hand.does = hand.left == 0 ? "READY" : "WALKS";
    }

    private boolean one(int h) {
        Hand hand = hands.get(h);
        if (hand.does.equals("WORKS") && hand.left == 0) {
            hand.learnt[hand.coat.piece]++;
            hand.does = "STANDS";
            hand.coat.unit++;
            while (hand.coat.piece < setup.pieces() && hand.coat.unit >= setup.units[hand.coat.sort][hand.coat.piece]) {
                hand.coat.piece++;
                hand.coat.unit = 0;
            }
            if (hand.coat.piece == setup.pieces()) {
                done++;
                sendBack(h, setup.pieces());
            }
            return true;
        }
        if (hand.does.equals("READY") && h == 0) {
            int sort = setup.row.get(next);
            next = (next + 1) % setup.row.size();
            int piece = 0;
            while (setup.units[sort][piece] == 0) {
                piece++;
            }
            hand.coat = new Coat(sort, piece);
            hand.does = "STANDS";
            return true;
        }
        if (hand.does.equals("READY")) {
            Hand ahead = hands.get(h - 1);
            if (ahead.coat == null || !ahead.does.equals("STANDS")) {
                return false;
            }
            if (setup.whole[ahead.coat.piece] && ahead.coat.unit > 0) {
                return false;
            }
            if (setup.rule.equals("fixed") && ahead.coat.piece < end(h - 1)) {
                return false;
            }
            hand.coat = ahead.coat;
            hand.does = "STANDS";
            taken++;
            overs.add(new int[] {tick, h, hand.coat.piece, hand.coat.unit, hand.coat.sort});
            sendBack(h - 1, hand.coat.piece);
            return true;
        }
        if (hand.does.equals("STANDS")) {
            boolean last = h == setup.hands() - 1;
            if (!last && !setup.rule.equals("back") && hand.coat.piece >= end(h)) {
                return false;
            }
            Coat behind = last ? null : hands.get(h + 1).coat;
            if (behind != null && behind.piece * 100 + behind.unit <= hand.coat.piece * 100 + hand.coat.unit) {
                return false;
            }
            hand.does = "WORKS";
            hand.left = takes(h, hand.coat.piece);
            return true;
        }
        return false;
    }

    private void rest() {
        boolean any = true;
        while (any) {
            any = false;
            for (int h = setup.hands() - 1; h >= 0; h--) {
                any |= one(h);
            }
        }
    }

    boolean stuck() {
        return hands.stream().allMatch(h -> h.left == 0);
    }

    void tickOnce() {
        tick++;
        for (Hand h : hands) {
            if (h.does.equals("STANDS") || h.does.equals("READY")) {
                h.waited++;
                if (h.does.equals("STANDS")) {
                    stood[h.coat.piece]++;
                }
            } else {
                h.left--;
                if (h.left == 0 && h.does.equals("WALKS")) {
                    h.does = "READY";
                }
            }
        }
        rest();
    }

    int night() {
        int lay = 0;
        for (Hand h : hands) {
            lay += h.coat == null ? 0 : 1;
            h.coat = null;
            h.left = 0;
            h.does = "READY";
        }
        next = 0;
        rest();
        return lay;
    }

    static Model run(Setup setup, int m) {
        Model b = new Model(setup);
        while (b.done < m && !b.stuck()) {
            b.tickOnce();
        }
        return b;
    }

    private String image() {
        StringBuilder b = new StringBuilder();
        b.append(next);
        for (int h = 0; h < hands.size(); h++) {
            Hand hand = hands.get(h);
            b.append('/').append(hand.does).append(hand.left);
            if (hand.coat != null) {
                b.append(',').append(hand.coat.sort).append(',').append(hand.coat.piece).append(',').append(hand.coat.unit);
            }
            for (int p = 0; p < setup.pieces(); p++) {
                int enough = setup.learn * (setup.paces.get(h)[p] - 1);
                b.append(':').append(Math.min(hand.learnt[p], enough));
            }
        }
        return b.toString();
    }

    /** Coats ahead, coats and ticks of the ring, its first tick; null: there is none. */
    static int[] settle(Setup setup) {
        Map<String, int[]> seen = new HashMap<>();
        Model b = new Model(setup);
        while (b.done < 120 && !b.stuck()) {
            int before = b.done;
            b.tickOnce();
            if (b.done > before) {
                int[] was = seen.putIfAbsent(b.image(), new int[] {b.done, b.tick});
                if (was != null) {
                    return new int[] {was[0], b.done - was[0], b.tick - was[1], was[1]};
                }
            }
        }
        return null;
    }

    static long[] makes(Setup setup) {
        int[] ring = settle(setup);
        if (ring == null) {
            return new long[] {0, 1};
        }
        int common = BigInteger.valueOf(ring[1]).gcd(BigInteger.valueOf(ring[2])).intValue();
        return new long[] {ring[1] / common, ring[2] / common};
    }

    static boolean more(long[] a, long[] than) {
        return a[0] * than[1] > than[0] * a[1];
    }

    static BigInteger[] could(Setup setup) {
        BigInteger top = BigInteger.ZERO;
        BigInteger bottom = BigInteger.ONE;
        for (int[] paces : setup.paces) {
            int ticks = 0;
            for (int sort : setup.row) {
                for (int p = 0; p < setup.pieces(); p++) {
                    ticks += setup.units[sort][p] * paces[p];
                }
            }
            BigInteger t = BigInteger.valueOf(ticks);
            top = top.multiply(t).add(bottom.multiply(BigInteger.valueOf(setup.row.size())));
            bottom = bottom.multiply(t);
        }
        BigInteger common = top.gcd(bottom);
        return new BigInteger[] {top.divide(common), bottom.divide(common)};
    }

    /** All orders of hands, by numbers. */
    static List<List<Integer>> orders(int hands) {
        List<List<Integer>> all = new ArrayList<>();
        extend(new ArrayList<>(), hands, all);
        return all;
    }

    private static void extend(List<Integer> row, int hands, List<List<Integer>> all) {
        if (row.size() == hands) {
            all.add(new ArrayList<>(row));
            return;
        }
        for (int h = 0; h < hands; h++) {
            if (!row.contains(h)) {
                row.add(h);
                extend(row, hands, all);
                row.remove(row.size() - 1);
            }
        }
    }

    static Setup ordered(Setup setup, List<Integer> order) {
        Setup s = setup.copy();
        s.paces.clear();
        for (int h : order) {
            s.paces.add(setup.paces.get(h));
        }
        return s;
    }

    static Setup without(Setup setup, int hand) {
        Setup s = setup.copy();
        s.paces.remove(hand);
        if (!s.ends.isEmpty()) {
            s.ends.remove(Math.min(hand, s.ends.size() - 1));
        }
        return s;
    }

    /** All ends for fixed parts, the first first. */
    static List<List<Integer>> allEnds(int hands, int pieces) {
        List<List<Integer>> all = new ArrayList<>();
        extendEnds(new ArrayList<>(), hands - 1, pieces, all);
        return all;
    }

    private static void extendEnds(List<Integer> row, int size, int pieces, List<List<Integer>> all) {
        if (row.size() == size) {
            all.add(new ArrayList<>(row));
            return;
        }
        for (int e = row.isEmpty() ? 1 : row.get(row.size() - 1) + 1; e < pieces; e++) {
            row.add(e);
            extendEnds(row, size, pieces, all);
            row.remove(row.size() - 1);
        }
    }
}
