/** Promises 2 to 6: target, bounds, guards, of, drop. */
public final class TargetsTest {
    private static final Due DUE = new Due("TargetsTest");

    public static void main(String[] args) {
        newTargets();
        wrongTargets();
        tenAtMost();
        bounds();
        boundsFindings();
        guards();
        of();
        drop();
        DUE.end();
    }

    private static void all(GuardDesk x, int t, int... want) {
        for (int what = 0; what < want.length; what++) {
            DUE.is("of(" + t + ", " + what + ")", x.of(t, what), want[what]);
        }
    }

    private static void newTargets() {
        GuardDesk x = new GuardDesk();
        DUE.is("target(0, 60, -60, 60, 60)", x.target(0, 60, -60, 60, 60), 0);
        DUE.is("target(1, -60, -60, -60, 1)", x.target(1, -60, -60, -60, 1), 1);
        DUE.is("target(2, 3, 2, 1, 30)", x.target(2, 3, 2, 1, 30), 2);
        DUE.is("target(3, 0, -1, 7, 12)", x.target(3, 0, -1, 7, 12), 3);
        all(x, 0, 0, 60, -60, 60, 60, 0, 60, 0);
        all(x, 1, 1, -60, -60, -60, 1, 0, 0, 0);
        all(x, 2, 2, 3, 2, 1, 30, 0, 60, 0);
        all(x, 3, 3, 0, -1, 7, 12, 0, 60, 0);
        for (int gap = -61; gap <= 130; gap++) {
            boolean known = false;
            for (int one : Due.GAPS) {
                known |= one == gap;
            }
            int got = new GuardDesk().target(0, 1, 0, 1, gap);
            DUE.is("target with gap " + gap, got, known ? 0 : Due.BAD);
        }
    }

    private static void wrongTargets() {
        GuardDesk x = new GuardDesk();
        int[][] wrong = {{-1, 0, 0, 0, 1}, {4, 0, 0, 0, 1}, {0, 61, 0, 0, 1}, {0, -61, -61, 0, 1},
            {0, -60, -61, 0, 1}, {0, 61, 61, 0, 1}, {0, 0, 0, 61, 1}, {0, 0, 0, -61, 1},
            {0, 3, 4, 0, 1}, {0, 0, 0, 0, 0}, {0, 0, 0, 0, 8}, {0, 0, 0, 0, -60}};
        for (int[] w : wrong) {
            DUE.is("wrong target", x.target(w[0], w[1], w[2], w[3], w[4]), Due.BAD);
        }
        for (int far : Due.FAR) {
            DUE.is("far kind", x.target(far, 0, 0, 0, 1), Due.BAD);
            DUE.is("far saved", x.target(0, far, 0, 0, 1), Due.BAD);
            DUE.is("far lost", x.target(0, 0, far, 0, 1), Due.BAD);
            DUE.is("far gain", x.target(0, 0, 0, far, 1), Due.BAD);
            DUE.is("far gap", x.target(0, 0, 0, 0, far), Due.BAD);
        }
        DUE.is("count(0) after wrong targets", x.count(0), 0);
        DUE.is("count(6) after BAD alone", x.count(6), 0);
    }

    private static void tenAtMost() {
        GuardDesk x = new GuardDesk();
        for (int t = 0; t < 10; t++) {
            DUE.is("target " + t, x.target(t % 4, t, -t, t, 5), t);
        }
        DUE.is("target 10", x.target(0, 0, 0, 0, 1), Due.BAD);
        DUE.is("count(0)", x.count(0), 10);
        all(x, 9, 1, 9, -9, 9, 5, 0, 0, 0);
        DUE.is("drop()", x.drop(), 9);
        DUE.is("target again", x.target(0, 0, 0, 0, 1), 9);
    }

    private static GuardDesk fourKinds() {
        GuardDesk x = new GuardDesk();
        for (int kind = 0; kind < 4; kind++) {
            x.target(kind, 2, 1, 3, 4);
        }
        return x;
    }

    private static void bounds() {
        GuardDesk x = fourKinds();
        DUE.is("put(3, 50)", x.put(3, 50), 0);
        DUE.is("bounds(3, 10, 40)", x.bounds(3, 10, 40), 1);
        all(x, 3, 3, 2, 1, 3, 4, 10, 40, 50);
        DUE.is("bounds(3, 60, 60)", x.bounds(3, 60, 60), 1);
        all(x, 3, 3, 2, 1, 3, 4, 60, 60, 50);
        DUE.is("bounds(3, 0, 0)", x.bounds(3, 0, 0), 1);
        all(x, 3, 3, 2, 1, 3, 4, 0, 0, 50);
        DUE.is("bounds(2, 0, 1)", x.bounds(2, 0, 1), 1);
        all(x, 2, 2, 2, 1, 3, 4, 0, 1, 0);
        DUE.is("bounds(2, 0, 0)", x.bounds(2, 0, 0), 1);
        all(x, 2, 2, 2, 1, 3, 4, 0, 0, 0);
        x.bounds(3, 30, 31);
        DUE.is("drop()", x.drop(), 3);
        DUE.is("target again", x.target(3, 2, 1, 3, 4), 3);
        all(x, 3, 3, 2, 1, 3, 4, 0, 60, 0);
    }

    private static void boundsFindings() {
        GuardDesk x = fourKinds();
        int[][] wrong = {{-1, 0, 0}, {4, 0, 0}, {3, 0, 61}, {3, 0, -1}, {3, -1, 0}, {3, 5, 4},
            {0, 0, 61}, {1, 2, 1}, {2, -1, 5}, {2, 1, 5}, {2, 5, 5}};
        for (int[] w : wrong) {
            String call = "bounds(" + w[0] + ", " + w[1] + ", " + w[2] + ")";
            DUE.is(call, x.bounds(w[0], w[1], w[2]), Due.BAD);
        }
        for (int far : Due.FAR) {
            DUE.is("far target", x.bounds(far, 0, 0), Due.BAD);
            DUE.is("far least", x.bounds(3, far, 60), Due.BAD);
            DUE.is("far most", x.bounds(3, 0, far), Due.BAD);
        }
        DUE.is("count(6) after BAD", x.count(6), 0);
        DUE.is("bounds(0, 0, 60)", x.bounds(0, 0, 60), Due.SORT);
        DUE.is("bounds(1, 0, 0)", x.bounds(1, 0, 0), Due.SORT);
        DUE.is("bounds(1, 1, 2)", x.bounds(1, 1, 2), Due.SORT);
        DUE.is("count(6) after SORT", x.count(6), 3);
        all(x, 0, 0, 2, 1, 3, 4, 0, 60, 0);
        all(x, 1, 1, 2, 1, 3, 4, 0, 0, 0);
        all(x, 2, 2, 2, 1, 3, 4, 0, 60, 0);
        all(x, 3, 3, 2, 1, 3, 4, 0, 60, 0);
    }

    private static void guards() {
        GuardDesk x = new GuardDesk();
        DUE.is("guards(0)", x.guards(0), 1);
        DUE.is("guards(10)", x.guards(10), 0);
        DUE.is("guards(11)", x.guards(11), Due.BAD);
        DUE.is("guards(-1)", x.guards(-1), Due.BAD);
        for (int far : Due.FAR) {
            DUE.is("far guards", x.guards(far), Due.BAD);
        }
        DUE.is("count(1)", x.count(1), 10);
        DUE.is("guards(4)", x.guards(4), 10);
    }

    private static void of() {
        GuardDesk x = fourKinds();
        DUE.is("of(4, 0)", x.of(4, 0), Due.BAD);
        DUE.is("of(-1, 0)", x.of(-1, 0), Due.BAD);
        DUE.is("of(0, -1)", x.of(0, -1), Due.BAD);
        DUE.is("of(0, 8)", x.of(0, 8), Due.BAD);
        for (int far : Due.FAR) {
            DUE.is("of(far, 0)", x.of(far, 0), Due.BAD);
            DUE.is("of(0, far)", x.of(0, far), Due.BAD);
        }
        x.put(0, 17);
        DUE.is("of(0, 7)", x.of(0, 7), 17);
    }

    private static void drop() {
        GuardDesk x = fourKinds();
        x.put(3, 9);
        for (int left = 3; left >= 0; left--) {
            DUE.is("drop()", x.drop(), left);
            DUE.is("of(" + left + ", 0)", x.of(left, 0), Due.BAD);
            DUE.is("count(0)", x.count(0), left);
        }
        DUE.is("drop()", x.drop(), Due.NOTHING);
        DUE.is("drop()", x.drop(), Due.NOTHING);
        DUE.is("count(6)", x.count(6), 2);
        DUE.is("target", x.target(0, 0, 0, 0, 1), 0);
        all(x, 0, 0, 0, 0, 0, 1, 0, 60, 0);
    }
}
