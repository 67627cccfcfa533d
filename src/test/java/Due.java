import java.util.function.IntUnaryOperator;

/** Collects the answers that are not the ones that are due, and the findings' numbers. */
final class Due {
    static final int BAD = -1000000002;
    static final int NONE = -1000000003;
    static final int NOTHING = -1000000010;
    static final int PLACE = -1000000011;
    static final int SORT = -1000000012;
    static final int SIZE = -1000000013;
    static final int[] GAPS = {1, 2, 3, 4, 5, 6, 10, 12, 15, 20, 30, 60};
    static final int[] FAR = {Integer.MIN_VALUE, Integer.MIN_VALUE + 1, Integer.MAX_VALUE - 1,
        Integer.MAX_VALUE};

    private static final int MOST_TOLD = 40;

    private final String name;
    private String sentence = "";
    private int wrong;
    private int asked;
    private int askedBefore;

    Due(String name) {
        this.name = name;
    }

    /**
     * The checks behind this, up to the next one, are for these words of the document. The words
     * must stand there, so that a reader finds them, and at least one check must follow.
     */
    void sentence(String section, String words) {
        closeSentence();
        sentence = section + ", \"" + words + "\": ";
        askedBefore = asked;
        if (!Document.says(section, words)) {
            tell("these words are not in the document");
        }
    }

    void is(String call, long got, long want) {
        asked++;
        if (got != want) {
            tell(call + " answered " + got + ", due is " + want);
        }
    }

    void holds(String what, boolean got) {
        is(what, got ? 1 : 0, 1);
    }

    /** An answer that is a fraction, with what below() tells behind it. */
    void fraction(String call, GuardDesk x, int got, long above, long below) {
        is(call, got, above);
        is("below() after " + call, x.below(), below);
    }

    /** The last value that is taken and the first that is BAD, on both sides, and far ones. */
    void range(String call, int least, int most, IntUnaryOperator ask, IntUnaryOperator want) {
        is(call + " of " + least, ask.applyAsInt(least), want.applyAsInt(least));
        is(call + " of " + most, ask.applyAsInt(most), want.applyAsInt(most));
        outside(call, least, most, ask, BAD);
    }

    /** The first value that is not taken on either side, and far ones. */
    void outside(String call, int least, int most, IntUnaryOperator ask, int finding) {
        is(call + " of " + (least - 1), ask.applyAsInt(least - 1), finding);
        is(call + " of " + (most + 1), ask.applyAsInt(most + 1), finding);
        for (int far : FAR) {
            is(call + " of " + far, ask.applyAsInt(far), finding);
        }
    }

    void end() {
        closeSentence();
        System.out.println(name + ": " + asked + " asked, " + wrong + " wrong");
        if (wrong != 0 || asked == 0) {
            System.exit(1);
        }
    }

    private void closeSentence() {
        if (!sentence.isEmpty() && asked == askedBefore) {
            tell("nothing was asked");
        }
    }

    private void tell(String what) {
        wrong++;
        if (wrong <= MOST_TOLD) {
            System.out.println(name + ": " + sentence + what);
        }
    }
}
