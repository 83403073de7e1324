/** Puts texts on the tape of a HandToHand. */
final class Tape {
    private Tape() {
    }

    /** Feeds a text behind what the tape has; its signs are bytes. */
    static void feed(HandToHand x, String text) {
        int had = x.count(1);
        for (int i = 0; i < text.length(); i += 8) {
            long v = 0;
            for (int j = i; j < i + 8; j++) {
                v = v << 8 | (j < text.length() ? text.charAt(j) & 255 : ' ');
            }
            x.feed(v);
        }
        x.end(had + text.length());
    }

    static int tell(HandToHand x, String text) {
        feed(x, text);
        return x.text();
    }

    static HandToHand told(String text) {
        HandToHand x = new HandToHand();
        Due.holds("taken: " + text, tell(x, text) > 0);
        return x;
    }
}
