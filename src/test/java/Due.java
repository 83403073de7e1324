/** Counts what was looked at and what is not as due. */
final class Due {
    private static final int SHOWN = 40;
    private static int looked = 0;
    private static int wrong = 0;

    private Due() {
    }

    static void same(String what, long got, long want) {
        looked++;
        if (got != want) {
            wrong++;
            if (wrong <= SHOWN) {
                System.out.println(what + " answered " + got + ", due is " + want);
            }
        }
    }

    static void holds(String what, boolean does) {
        same(what, does ? 1 : 0, 1);
    }

    static void end() {
        System.out.println(looked + " looked at, " + wrong + " not as due");
        if (wrong != 0 || looked == 0) {
            System.exit(1);
        }
    }
}
