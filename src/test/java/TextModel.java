import java.util.Arrays;
import java.util.HashSet;
import java.util.List;
import java.util.Set;
import java.util.regex.Matcher;
import java.util.regex.Pattern;

/** The document's text once more, read apart from the class: a fault is thrown where it is met. */
final class TextModel {
    private static final List<String> NAMES =
        List.of("piece", "whole", "sort", "row", "hand", "walk", "learn", "back", "zone", "fixed");
    private static final Pattern TOKEN = Pattern.compile(" *([a-z]+|[0-9]+|;)");

    static final class Fault extends Exception {
        private static final long serialVersionUID = 1L;
        final int which;
        final int place;

        Fault(int which, int place) {
            this.which = which;
            this.place = place;
        }
    }

    private final String text;
    private int at;
    private String token;
    private int place;
    int lines;
    final Model.Setup setup = new Model.Setup();
    private final Set<String> seen = new HashSet<>();

    TextModel(String text) throws Fault {
        this.text = text;
        setup.whole = new boolean[0];
        setup.units[0] = new int[0];
        while (read()) {
            line();
            lines++;
        }
        if (setup.pieces() == 0 || setup.hands() == 0) {
            throw new Fault(6, text.length());
        }
        for (int s = 0; s < 3; s++) {
            if (setup.units[s] == null) {
                setup.units[s] = setup.units[0].clone();
            }
            if (Arrays.stream(setup.units[s]).sum() == 0) {
                throw new Fault(7, text.length());
            }
        }
        if (setup.row.isEmpty()) {
            setup.row.add(0);
        }
    }

    /** Reads a token; false: there is none any more. */
    private boolean read() throws Fault {
        String rest = text.substring(at);
        if (rest.isBlank() && rest.chars().allMatch(c -> c == ' ')) {
            place = text.length();
            token = "";
            return false;
        }
        int blanks = 0;
        while (rest.charAt(blanks) == ' ') {
            blanks++;
        }
        place = at + blanks;
        Matcher m = TOKEN.matcher(rest);
        if (!m.lookingAt()) {
            throw new Fault(1, place);
        }
        token = m.group(1);
        at += m.end();
        boolean name = Character.isLetter(token.charAt(0));
        if (name && !NAMES.contains(token) || !name && token.length() > 2) {
            throw new Fault(1, place);
        }
        return true;
    }

    private boolean isNumber() {
        return !token.isEmpty() && Character.isDigit(token.charAt(0));
    }

    private int bound(int low, int high) throws Fault {
        int v = Integer.parseInt(token);
        if (v < low || v > high) {
            throw new Fault(3, place);
        }
        return v;
    }

    private int number(int low, int high) throws Fault {
        read();
        if (!isNumber()) {
            throw new Fault(2, place);
        }
        return bound(low, high);
    }

    private int[] numbers(int n, int low, int high) throws Fault {
        int[] all = new int[n];
        for (int i = 0; i < n; i++) {
            all[i] = number(low, high);
        }
        return all;
    }

    private void sign() throws Fault {
        read();
        close();
    }

    private void close() throws Fault {
        if (!token.equals(";")) {
            throw new Fault(2, place);
        }
    }

    private void once(String what) throws Fault {
        if (!seen.add(what)) {
            throw new Fault(4, place);
        }
    }

    private void noneOf(String... names) throws Fault {
        for (String name : names) {
            if (seen.contains(name)) {
                throw new Fault(5, place);
            }
        }
    }

    private void line() throws Fault {
        if (token.equals("piece")) {
            noneOf("any sort", "any hand", "zone", "fixed");
            limit(setup.pieces(), 8);
            int n = setup.pieces();
            setup.units[0] = Arrays.copyOf(setup.units[0], n + 1);
            setup.units[0][n] = number(0, 6);
            setup.whole = Arrays.copyOf(setup.whole, n + 1);
            sign();
        } else if (token.equals("whole")) {
            int p = number(0, setup.pieces() - 1);
            once("whole " + p);
            setup.whole[p] = true;
            sign();
        } else if (token.equals("sort")) {
            int s = number(1, 2);
            once("sort " + s);
            seen.add("any sort");
            setup.units[s] = numbers(setup.pieces(), 0, 6);
            sign();
        } else if (token.equals("row")) {
            once("row");
            setup.row.add(number(0, 2));
            while (read() && isNumber()) {
                limit(setup.row.size(), 6);
                setup.row.add(bound(0, 2));
            }
            close();
        } else if (token.equals("hand")) {
            noneOf("zone", "fixed");
            limit(setup.hands(), 5);
            seen.add("any hand");
            setup.paces.add(numbers(setup.pieces(), 1, 9));
            sign();
        } else {
            rest(token);
        }
    }

    private void limit(int there, int most) throws Fault {
        if (there >= most) {
            throw new Fault(5, place);
        }
    }

    private void rest(String name) throws Fault {
        if (name.equals("walk")) {
            once("walk");
            setup.walk = number(0, 5);
        } else if (name.equals("learn")) {
            once("learn");
            setup.learn = number(0, 99);
        } else if (name.equals("back") || name.equals("zone") || name.equals("fixed")) {
            once("rule");
            seen.add(name);
            setup.rule = name;
            int low = 1;
            for (int i = 1; i < setup.hands() && !name.equals("back"); i++) {
                low = number(low, setup.pieces());
                setup.ends.add(low);
            }
        } else {
            throw new Fault(2, place);
        }
        sign();
    }
}
