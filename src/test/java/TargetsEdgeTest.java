/** The edges of promises 2 to 6, and of what the terms say of targets and guards. */
public final class TargetsEdgeTest {
    private static final Due DUE = new Due("TargetsEdgeTest");
    private static final int KIND = 0;
    private static final int LEAST = 5;
    private static final int MOST = 6;
    private static final int HAND = 7;

    public static void main(String[] args) {
        kinds();
        pays();
        lostAboveSaved();
        gaps();
        tenTargets();
        boundsOfMost();
        boundsOfLeast();
        boundsOfKinds();
        handStays();
        guards();
        of();
        drop();
        DUE.end();
    }

    private static GuardDesk fourKinds() {
        GuardDesk x = new GuardDesk();
        for (int kind = 0; kind < 4; kind++) {
            x.target(kind, 2, 1, 3, 4);
        }
        return x;
    }

    private static GuardDesk withTargets(int n) {
        GuardDesk x = new GuardDesk();
        for (int t = 0; t < n; t++) {
            x.target(3, t, -t, t, 1);
        }
        return x;
    }

    private static void kinds() {
        DUE.sentence("Promise 2", "no such KIND");
        DUE.range("kind", 0, 3, kind -> new GuardDesk().target(kind, 0, 0, 0, 1), kind -> 0);
        DUE.sentence("Promise 2", "with LEAST 0, and MOST 0 of an OPEN one, 60 of others");
        GuardDesk x = fourKinds();
        for (int kind = 0; kind < 4; kind++) {
            DUE.is("KIND of kind " + kind, x.of(kind, KIND), kind);
            DUE.is("LEAST of kind " + kind, x.of(kind, LEAST), 0);
            DUE.is("MOST of kind " + kind, x.of(kind, MOST), kind == 1 ? 0 : 60);
        }
        DUE.sentence("Terms", "0 TARGET: LEAST 0, MOST 60.");
        DUE.is("put(0, 60)", x.put(0, 60), 0);
        DUE.is("put(0, 61)", x.put(0, 61), Due.BAD);
        DUE.is("put(0, 0)", x.put(0, 0), 60);
        DUE.is("put(0, -1)", x.put(0, -1), Due.BAD);
        DUE.sentence("Terms", "1 OPEN under TARGET: both 0.");
        DUE.is("put(1, 0)", x.put(1, 0), 0);
        DUE.is("put(1, 1)", x.put(1, 1), Due.BAD);
        DUE.fraction("share of an open one", x, x.share(1), 0, 1);
    }

    private static void pays() {
        DUE.sentence("Promise 2", "saved, lost or gain is not -60 .. 60");
        DUE.range("saved, lost being -60", -60, 60, v -> new GuardDesk().target(0, v, -60, 0, 1), v -> 0);
        DUE.range("lost, saved being 60", -60, 60, v -> new GuardDesk().target(0, 60, v, 0, 1), v -> 0);
        DUE.range("saved and lost", -60, 60, v -> new GuardDesk().target(0, v, v, 0, 1), v -> 0);
        DUE.range("gain", -60, 60, v -> new GuardDesk().target(0, 0, 0, v, 1), v -> 0);
        GuardDesk x = new GuardDesk();
        x.target(0, 60, -60, 60, 60);
        x.target(0, -60, -60, -60, 1);
        x.target(0, 60, 60, 0, 1);
        int[][] want = {{60, -60, 60, 60}, {-60, -60, -60, 1}, {60, 60, 0, 1}};
        for (int t = 0; t < want.length; t++) {
            for (int what = 1; what <= 4; what++) {
                DUE.is("of(" + t + ", " + what + ")", x.of(t, what), want[t][what - 1]);
            }
        }
    }

    private static void lostAboveSaved() {
        DUE.sentence("Promise 2", "lost is above saved");
        for (int saved = -60; saved <= 60; saved++) {
            DUE.is("lost is saved", new GuardDesk().target(0, saved, saved, 0, 1), 0);
            DUE.is("lost is one above", new GuardDesk().target(0, saved, saved + 1, 0, 1), Due.BAD);
        }
        DUE.sentence("Terms", "LOST is not above SAVED");
        DUE.is("lost 60, saved -60", new GuardDesk().target(0, -60, 60, 0, 1), Due.BAD);
        DUE.is("lost -60, saved 60", new GuardDesk().target(0, 60, -60, 0, 1), 0);
    }

    private static void gaps() {
        DUE.sentence("Terms", "one of 1, 2, 3, 4, 5, 6, 10, 12, 15, 20, 30, 60");
        for (int gap : Due.GAPS) {
            GuardDesk x = new GuardDesk();
            DUE.is("gap " + gap, x.target(0, 0, 0, 0, gap), 0);
            DUE.is("of(0, 4)", x.of(0, 4), gap);
        }
        DUE.sentence("Promise 2", "gap is none of those");
        int[] others = {-60, -30, -1, 0, 7, 8, 9, 11, 13, 14, 16, 19, 21, 29, 31, 59, 61, 120};
        for (int gap : others) {
            DUE.is("gap " + gap, new GuardDesk().target(0, 0, 0, 0, gap), Due.BAD);
        }
        for (int gap : Due.FAR) {
            DUE.is("gap " + gap, new GuardDesk().target(0, 0, 0, 0, gap), Due.BAD);
        }
    }

    private static void tenTargets() {
        DUE.sentence("Promise 2", "there are 10");
        GuardDesk x = new GuardDesk();
        for (int t = 0; t < 10; t++) {
            DUE.is("target as number " + t, x.target(t % 4, t, -t, t, 5), t);
        }
        DUE.is("an eleventh", x.target(0, 0, 0, 0, 1), Due.BAD);
        DUE.is("count(0)", x.count(0), 10);
        DUE.is("the tenth stays", x.of(9, 1), 9);
        x.drop();
        DUE.is("a tenth again", x.target(0, 1, 0, 0, 1), 9);
        DUE.is("an eleventh again", x.target(0, 0, 0, 0, 1), Due.BAD);
        DUE.sentence("Terms", "TARGETS are numbered from 0, 10 at most.");
        DUE.is("of(9, 1)", x.of(9, 1), 1);
        DUE.is("of(10, 1)", x.of(10, 1), Due.BAD);
    }

    private static void boundsOfMost() {
        DUE.sentence("Promise 3", "no such TARGET");
        for (int n = 0; n <= 10; n++) {
            GuardDesk x = withTargets(n);
            DUE.outside("bounds(t, 0, 60) of " + n, 0, n - 1, t -> x.bounds(t, 0, 60), Due.BAD);
            if (n > 0) {
                DUE.is("bounds(0, 0, 60) of " + n, x.bounds(0, 0, 60), 1);
                DUE.is("bounds(" + (n - 1) + ", 0, 60)", x.bounds(n - 1, 0, 60), 1);
            }
        }
        DUE.sentence("Promise 3", "most is not 0 .. 60");
        GuardDesk x = fourKinds();
        DUE.range("bounds(2, 0, most)", 0, 60, most -> x.bounds(2, 0, most), most -> 1);
        DUE.range("bounds(3, 0, most)", 0, 60, most -> x.bounds(3, 0, most), most -> 1);
        DUE.sentence("Terms", "2 WEAK under TARGET: LEAST 0, MOST as told (0 to 60).");
        for (int most = 0; most <= 60; most++) {
            DUE.is("bounds(2, 0, " + most + ")", x.bounds(2, 0, most), 1);
            DUE.is("of(2, 6)", x.of(2, MOST), most);
        }
    }

    private static void boundsOfLeast() {
        DUE.sentence("Promise 3", "or least not 0 .. most");
        GuardDesk x = fourKinds();
        int[] mosts = {0, 1, 30, 59, 60};
        for (int most : mosts) {
            String call = "bounds(3, least, " + most + ")";
            DUE.range(call, 0, most, least -> x.bounds(3, least, most), least -> 1);
        }
        DUE.sentence("Terms", "3 KEPT under WEAK: LEAST as told, too (0 to MOST).");
        for (int least = 0; least <= 60; least++) {
            DUE.is("bounds(3, " + least + ", 60)", x.bounds(3, least, 60), 1);
            DUE.is("of(3, 5)", x.of(3, LEAST), least);
            DUE.is("bounds(3, " + least + ", " + least + ")", x.bounds(3, least, least), 1);
            DUE.is("of(3, 6)", x.of(3, MOST), least);
        }
    }

    private static void boundsOfKinds() {
        DUE.sentence("Promise 3", "it is none of WEAK and KEPT");
        GuardDesk x = fourKinds();
        DUE.is("bounds(0, 0, 60): just as it is", x.bounds(0, 0, 60), Due.SORT);
        DUE.is("bounds(1, 0, 0): just as it is", x.bounds(1, 0, 0), Due.SORT);
        DUE.is("bounds(2, 0, 60)", x.bounds(2, 0, 60), 1);
        DUE.is("bounds(3, 0, 60)", x.bounds(3, 0, 60), 1);
        DUE.is("of(0, 6)", x.of(0, MOST), 60);
        DUE.is("of(1, 6)", x.of(1, MOST), 0);
        DUE.sentence("Promise 3", "it is WEAK and least is not 0");
        DUE.is("bounds(2, 1, 60)", x.bounds(2, 1, 60), Due.BAD);
        DUE.is("bounds(2, 60, 60)", x.bounds(2, 60, 60), Due.BAD);
        DUE.is("bounds(2, 0, 0)", x.bounds(2, 0, 0), 1);
        DUE.is("bounds(3, 1, 60)", x.bounds(3, 1, 60), 1);
        DUE.is("of(2, 5)", x.of(2, LEAST), 0);
        DUE.is("of(2, 6)", x.of(2, MOST), 0);
    }

    private static void handStays() {
        DUE.sentence("Promise 3", "(What THE HAND has for it stays.)");
        GuardDesk x = fourKinds();
        x.put(3, 30);
        DUE.is("bounds(3, 31, 60): the hand is below", x.bounds(3, 31, 60), 1);
        DUE.is("of(3, 7)", x.of(3, HAND), 30);
        DUE.is("spare()", x.spare(), -30);
        DUE.is("bounds(3, 0, 29): the hand is above", x.bounds(3, 0, 29), 1);
        DUE.is("of(3, 7)", x.of(3, HAND), 30);
        DUE.is("spare()", x.spare(), -30);
        // All gains are 3; by the hand target 3 is worth 1 to the thief, the others 3.
        DUE.is("comes()", x.comes(), 0);
        DUE.is("put(3, 30): no longer to be had", x.put(3, 30), Due.BAD);
        DUE.is("put(3, 29) answers what it had", x.put(3, 29), 30);
    }

    private static void guards() {
        DUE.sentence("Promise 4", "n is not 0 .. 10");
        DUE.range("guards(n)", 0, 10, n -> new GuardDesk().guards(n), n -> 1);
        DUE.sentence("Promise 4", "GUARDS become n: what they were.");
        GuardDesk x = new GuardDesk();
        int before = 1;
        for (int n = 10; n >= 0; n--) {
            DUE.is("guards(" + n + ")", x.guards(n), before);
            DUE.is("count(1)", x.count(1), n);
            before = n;
        }
        DUE.is("guards(11)", x.guards(11), Due.BAD);
        DUE.is("count(1) after guards(11)", x.count(1), 0);
        DUE.sentence("Terms", "There are GUARDS (0 to 10; 1 at first).");
        DUE.is("count(1) at first", new GuardDesk().count(1), 1);
        DUE.is("guards(10)", x.guards(10), 0);
        DUE.is("guards(10) again", x.guards(10), 10);
    }

    private static void of() {
        DUE.sentence("Promise 5", "no such TARGET, what");
        GuardDesk x = withTargets(10);
        DUE.range("of(t, 1) of ten", 0, 9, t -> x.of(t, 1), t -> t);
        DUE.outside("of(t, 0) of none", 0, -1, t -> new GuardDesk().of(t, 0), Due.BAD);
        DUE.is("of(0, 0) of none", new GuardDesk().of(0, 0), Due.BAD);
        DUE.range("of(9, what)", 0, 7, what -> x.of(9, what), what -> what == 0 ? 3 : 0);
        x.drop();
        DUE.is("of(9, 0) after drop()", x.of(9, 0), Due.BAD);
    }

    private static void drop() {
        DUE.sentence("Promise 6", "The latest TARGET goes: how many are left.");
        GuardDesk x = withTargets(10);
        for (int left = 9; left >= 0; left--) {
            DUE.is("drop()", x.drop(), left);
            DUE.is("count(0)", x.count(0), left);
            DUE.is("of(" + left + ", 0)", x.of(left, 0), Due.BAD);
        }
        DUE.sentence("Promise 6", "there is none");
        DUE.is("drop() of none left", x.drop(), Due.NOTHING);
        DUE.is("drop() of a new object", new GuardDesk().drop(), Due.NOTHING);
        DUE.is("count(0) after drop() of none", x.count(0), 0);
        DUE.sentence("Promise 2", "A new TARGET of a KIND, with LEAST 0");
        GuardDesk y = withTargets(1);
        y.bounds(0, 20, 30);
        y.put(0, 25);
        y.drop();
        DUE.is("target in place of a dropped one", y.target(3, 0, 0, 0, 1), 0);
        DUE.is("its LEAST", y.of(0, LEAST), 0);
        DUE.is("its MOST", y.of(0, MOST), 60);
        DUE.is("what the hand has for it", y.of(0, HAND), 0);
    }
}
