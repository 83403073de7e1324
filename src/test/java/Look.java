import java.util.ArrayList;
import java.util.List;

/** What can be seen of a HandToHand, in short words. */
final class Look {
    private static final int NONE = HandToHand.NONE;

    private Look() {
    }

    /** What each hand does, the first first: ready, walks 2, stands 0.1, works 0.1 for 3 (piece, unit, ticks left). */
    static String hands(HandToHand x) {
        List<String> all = new ArrayList<>();
        for (int h = 0; h < x.rule(1); h++) {
            all.add(hand(x, h));
        }
        return String.join(", ", all);
    }

    static String hand(HandToHand x, int h) {
        int does = x.hand(h, 0);
        int left = x.hand(h, 1);
        boolean coat = x.hand(h, 2) != NONE;
        String told = does == 0 ? "ready" : does == 1 ? "walks " + left : does == 2 ? "stands " : "works ";
        if (coat) {
            told += x.hand(h, 2) + "." + x.hand(h, 3);
        }
        if (does == 3) {
            told += " for " + left;
        }
        boolean whole = coat == (does == 2 || does == 3) && (left > 0) == (does == 1 || does == 3)
            && (x.hand(h, 3) != NONE) == coat && (x.hand(h, 4) != NONE) == coat;
        return whole ? told : told + " (which can not be: " + left + " ticks left, sort " + x.hand(h, 4) + ")";
    }

    /** A row of answers: 0 up to the last number of what is asked. */
    static String row(int last, java.util.function.IntUnaryOperator asked) {
        List<String> all = new ArrayList<>();
        for (int what = 0; what <= last; what++) {
            all.add(Integer.toString(asked.applyAsInt(what)));
        }
        return String.join(" ", all);
    }

    /** What is told. */
    static String told(HandToHand x) {
        StringBuilder b = new StringBuilder(row(24, x::rule));
        for (int s = 0; s < 3; s++) {
            int sort = s;
            b.append(" / ").append(row(x.rule(0) - 1, p -> x.units(sort, p)));
        }
        for (int h = 0; h < x.rule(1); h++) {
            int hand = h;
            b.append(" / ").append(row(x.rule(0) - 1, p -> x.pace(hand, p)));
        }
        return b.toString();
    }

    /** The bench as it is, with what was learnt. */
    static String bench(HandToHand x) {
        StringBuilder b = new StringBuilder(row(4, x::now));
        for (int h = 0; h < x.rule(1); h++) {
            int hand = h;
            b.append(" / ").append(row(5, what -> x.hand(hand, what)));
            b.append(" learnt ").append(row(x.rule(0) - 1, p -> x.learnt(hand, p)));
            b.append(" takes ").append(row(x.rule(0) - 1, p -> x.takes(hand, p)));
        }
        return b.toString();
    }

    /** All that is told without a call that changes anything. */
    static String all(HandToHand x) {
        return told(x) + " | " + bench(x) + " | " + row(3, x::count) + " | " + x.fault() + " " + x.torn();
    }

    /** What is found by running. */
    static String found(HandToHand x) {
        StringBuilder b = new StringBuilder();
        for (int m : new int[] {120, 7, 1}) {
            b.append(row(5, what -> x.run(m, what))).append(' ').append(x.waits(m, 0)).append(" / ");
        }
        int last = x.run(120, 2) - 1;
        b.append(row(4, what -> x.over(120, last, what))).append(" / ").append(x.over(120, last + 1, 0));
        b.append(" / ").append(row(2, x::settles)).append(" / ").append(row(1, x::makes));
        b.append(" / ").append(x.could(0)).append(' ').append(x.could(1)).append(" / ").append(row(3, x::best));
        for (int h = 0; h < x.rule(1); h++) {
            int hand = h;
            b.append(" / ").append(row(3, what -> x.where(hand, what))).append(' ').append(row(1, what -> x.less(hand, what)));
            b.append(' ').append(row(1, what -> x.order(hand, what))).append(' ').append(x.parts(10 + h));
        }
        return b.append(" / ").append(row(1, x::parts)).toString();
    }
}
