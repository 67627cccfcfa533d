/** Collects the answers that are not the ones that are due, and the findings' numbers. */
final class Due {
    static final int BAD = -1000000002;
    static final int NONE = -1000000003;
    static final int NOTHING = -1000000010;
    static final int PLACE = -1000000011;
    static final int SORT = -1000000012;
    static final int SIZE = -1000000013;
    static final int[] GAPS = {1, 2, 3, 4, 5, 6, 10, 12, 15, 20, 30, 60};
    static final int[] FAR = {Integer.MIN_VALUE, Integer.MIN_VALUE + 1, Integer.MAX_VALUE - 1,
        Integer.MAX_VALUE};

    private static final int MOST_TOLD = 40;

    private final String name;
    private int wrong;
    private int asked;

    Due(String name) {
        this.name = name;
    }

    void is(String call, long got, long want) {
        asked++;
        if (got != want) {
            wrong++;
            if (wrong <= MOST_TOLD) {
                System.out.println(name + ": " + call + " answered " + got + ", due is " + want);
            }
        }
    }

    void holds(String what, boolean got) {
        is(what, got ? 1 : 0, 1);
    }

    /** An answer that is a fraction, with what below() tells behind it. */
    void fraction(String call, GuardDesk x, int got, long above, long below) {
        is(call, got, above);
        is("below() after " + call, x.below(), below);
    }

    void end() {
        System.out.println(name + ": " + asked + " asked, " + wrong + " wrong");
        if (wrong != 0 || asked == 0) {
            System.exit(1);
        }
    }
}
