import java.util.ArrayList;
import java.util.Collections;
import java.util.List;
import java.util.Random;

/** Many texts, right and wrong ones, each looked at against the plain reader. */
public final class TextTest {
    private static final int TEXTS = 60000;
    private static final String BYTES = " ;0123456789abchinoprstwz?A\t\u00e9\u0000";
    private static final String[] NAMES = {"piece", "whole", "sort", "row", "hand", "walk", "learn", "back", "zone", "fixed", "coat"};

    private TextTest() {
    }

    public static void main(String[] args) {
        int[] met = new int[8];
        HandToHand x = new HandToHand();
        for (int seed = 0; seed < TEXTS; seed++) {
            Random random = new Random(seed);
            String text = text(random);
            if (seed % 2 == 0) {
                x = new HandToHand();
            }
            met[look(x, text)]++;
        }
        for (int f = 0; f < met.length; f++) {
            Due.holds("texts of fault " + f + ": " + met[f], met[f] > 100);
        }
        Due.end();
    }

    private static int look(HandToHand x, String text) {
        int before = told(x);
        int got = Tape.tell(x, text);
        try {
            TextModel m = new TextModel(text);
            Due.same("lines of: " + text, got, m.lines);
            Due.same("fault of: " + text, x.fault(), 0);
            same(x, m.setup, text);
        } catch (TextModel.Fault f) {
            Due.same("place of: " + text, got, -10 - f.place);
            Due.same("fault of: " + text, x.fault(), f.which);
            Due.same("told stays: " + text, told(x), before);
        }
        Due.same("the tape is empty", x.count(1), 0);
        return x.fault();
    }

    private static int told(HandToHand x) {
        int all = 0;
        for (int what = 0; what < 25; what++) {
            all = all * 31 + x.rule(what);
        }
        for (int p = 0; p < 8; p++) {
            all = all * 31 + x.units(0, p) * 49 + x.units(1, p) * 7 + x.units(2, p);
            all = all * 31 + x.pace(0, p) * 10 + x.pace(1, p);
        }
        return all;
    }

    private static void same(HandToHand x, Model.Setup s, String text) {
        int whole = 0;
        for (int p = 0; p < s.pieces(); p++) {
            whole += s.whole[p] ? 1 << p : 0;
        }
        int[] told = {s.pieces(), s.hands(), s.walk, s.learn, List.of("back", "zone", "fixed").indexOf(s.rule), whole, s.row.size()};
        for (int i = 0; i < told.length; i++) {
            Due.same("rule " + i + " of: " + text, x.rule(i), told[i]);
        }
        for (int i = 0; i < 6; i++) {
            Due.same("row of: " + text, x.rule(10 + i), i < s.row.size() ? s.row.get(i) : -1);
        }
        for (int h = 0; h < 5; h++) {
            boolean last = h == s.hands() - 1;
            int end = h >= s.hands() ? -1 : last || s.rule.equals("back") ? s.pieces() : s.ends.get(h);
            Due.same("end of: " + text, x.rule(20 + h), end);
            for (int p = 0; p < 8; p++) {
                boolean there = h < s.hands() && p < s.pieces();
                Due.same("pace of: " + text, x.pace(h, p), there ? s.paces.get(h)[p] : -1);
            }
        }
        for (int i = 0; i < 3; i++) {
            for (int p = 0; p < 8; p++) {
                Due.same("units of: " + text, x.units(i, p), p < s.pieces() ? s.units[i][p] : -1);
            }
        }
    }

    private static int odd(Random random, int low, int high) {
        return random.nextInt(60) == 0 ? random.nextInt(130) : low + random.nextInt(Math.max(1, high - low + 1));
    }

    private static String line(Random random, String name, int numbers, int low, int high) {
        StringBuilder b = new StringBuilder(name);
        int n = random.nextInt(60) == 0 ? random.nextInt(9) : numbers;
        for (int i = 0; i < n; i++) {
            b.append(' ').append(odd(random, low, high));
        }
        return b.append(';').toString();
    }

    private static String text(Random random) {
        List<String> lines = new ArrayList<>();
        int pieces = random.nextInt(30) == 0 ? random.nextInt(11) : 1 + random.nextInt(8);
        int hands = random.nextInt(30) == 0 ? random.nextInt(8) : 1 + random.nextInt(5);
        for (int p = 0; p < pieces; p++) {
            lines.add(line(random, "piece", 1, 0, random.nextInt(8) == 0 ? 0 : 6));
        }
        if (random.nextBoolean()) {
            lines.add("whole " + odd(random, 0, pieces - 1) + ";");
            lines.add("whole " + odd(random, 0, pieces - 1) + ";");
        }
        for (int s = 1; s < 3; s++) {
            if (random.nextInt(3) == 0) {
                String sort = line(random, "sort", pieces, 0, random.nextInt(6) == 0 ? 0 : 6);
                lines.add("sort " + odd(random, s, s) + sort.substring(4));
            }
        }
        for (int h = 0; h < hands; h++) {
            lines.add(line(random, "hand", pieces, 1, 9));
        }
        if (random.nextBoolean()) {
            lines.add(rule(random, pieces, hands));
        }
        if (random.nextBoolean()) {
            lines.add(random.nextInt(lines.size() + 1), line(random, "walk", 1, 0, 5));
        }
        if (random.nextBoolean()) {
            lines.add(random.nextInt(lines.size() + 1), line(random, "learn", 1, 0, 99));
        }
        if (random.nextBoolean()) {
            lines.add(random.nextInt(lines.size() + 1), line(random, "row", 1 + random.nextInt(random.nextInt(9) == 0 ? 7 : 6), 0, 2));
        }
        disturb(random, lines);
        return spoil(random, String.join("", lines));
    }

    private static String rule(Random random, int pieces, int hands) {
        if (random.nextInt(3) == 0) {
            return "back;";
        }
        StringBuilder b = new StringBuilder(random.nextBoolean() ? "zone" : "fixed");
        int low = 1;
        for (int h = 0; h < hands - 1; h++) {
            low = Math.max(1, odd(random, low, pieces));
            b.append(' ').append(low);
        }
        return b.append(';').toString();
    }

    private static void disturb(Random random, List<String> lines) {
        int how = random.nextInt(12);
        if (how == 0) {
            Collections.shuffle(lines, random);
        } else if (how == 1 && !lines.isEmpty()) {
            lines.add(random.nextInt(lines.size()), lines.get(random.nextInt(lines.size())));
        } else if (how == 2 && !lines.isEmpty()) {
            lines.remove(random.nextInt(lines.size()));
        } else if (how == 3 && !lines.isEmpty()) {
            int i = random.nextInt(lines.size());
            int j = random.nextInt(lines.size());
            Collections.swap(lines, i, j);
        }
    }

    private static String spoil(Random random, String text) {
        StringBuilder b = new StringBuilder(text);
        if (random.nextInt(4) == 0) {
            for (int i = b.length(); i >= 0; i--) {
                boolean outside = i == b.length() || i == 0 || b.charAt(i) == ';' || b.charAt(i) == ' ' || b.charAt(i - 1) == ';';
                if (outside && random.nextInt(8) == 0) {
                    b.insert(i, " ".repeat(1 + random.nextInt(3)));
                }
            }
        }
        int changes = random.nextInt(3) == 0 ? 1 + random.nextInt(2) : 0;
        for (int i = 0; i < changes && b.length() > 0; i++) {
            int at = random.nextInt(b.length());
            switch (random.nextInt(6)) {
                case 0: b.deleteCharAt(at); break;
                case 1: b.insert(at, BYTES.charAt(random.nextInt(BYTES.length()))); break;
                case 2: b.setCharAt(at, BYTES.charAt(random.nextInt(BYTES.length()))); break;
                case 3: b.setLength(at); break;
                case 4: b.insert(at, NAMES[random.nextInt(NAMES.length)]); break;
                default: b.insert(at, random.nextInt(12)); break;
            }
        }
        b.setLength(Math.min(b.length(), 400));
        return b.toString();
    }
}
