/** The edges of promises 31 to 33, and of what the terms say of sheets. */
public final class SheetsEdgeTest {
    private static final Due DUE = new Due("SheetsEdgeTest");
    private static final int MIN = Integer.MIN_VALUE;
    private static final int MAX = Integer.MAX_VALUE;

    public static void main(String[] args) {
        noSuchSheet();
        sizes();
        anew();
        narrowed();
        writePlaces();
        handFromFindings();
        handFromPlaces();
        withoutTargets();
        leastAndMost();
        DUE.end();
    }

    private static GuardDesk row(int sort, int n) {
        GuardDesk x = new GuardDesk();
        x.sheet(0, sort, n);
        return x;
    }

    private static void noSuchSheet() {
        DUE.sentence("Promise 31", "no such SHEET, SORT");
        DUE.range("sheet(s, 0, 1)", 0, 3, s -> new GuardDesk().sheet(s, 0, 1), s -> 1);
        DUE.range("sheet(0, sort, 1)", 0, 2, sort -> new GuardDesk().sheet(0, sort, 1), sort -> 1);
        DUE.sentence("Promise 32", "no such SHEET");
        GuardDesk x = new GuardDesk();
        for (int s = 0; s < 4; s++) {
            x.sheet(s, 0, 1);
        }
        DUE.range("write(s, 0, 0)", 0, 3, s -> x.write(s, 0, 0), s -> 0);
        DUE.outside("write(s, 0, 0), all missing", 0, 3, s -> new GuardDesk().write(s, 0, 0), Due.BAD);
        DUE.sentence("Promise 33", "no such SHEET, SORT");
        DUE.range("handFrom(s, 0, 0)", 0, 3, s -> x.handFrom(s, 0, 0), s -> 0);
        DUE.range("handFrom(0, sort, 0)", 0, 2, sort -> row(sort, 1).handFrom(0, sort, 0), sort -> 0);
        DUE.outside("handFrom(s, 0, 0), all missing", 0, 3, s -> new GuardDesk().handFrom(s, 0, 0),
            Due.BAD);
        DUE.outside("handFrom(0, sort, 0), all missing", 0, 2,
            sort -> new GuardDesk().handFrom(0, sort, 0), Due.BAD);
        DUE.sentence("Terms", "SHEETS 0 to 3 are rows of bytes (SORT 0), shorts (1) or ints (2)");
        DUE.is("sheet(3, 2, 40)", x.sheet(3, 2, 40), 40);
        DUE.is("sheet(4, 2, 40)", x.sheet(4, 2, 40), Due.BAD);
        DUE.is("sheet(3, 3, 40)", x.sheet(3, 3, 40), Due.BAD);
    }

    private static void sizes() {
        DUE.sentence("Promise 31", "or n is above 40");
        for (int sort = 0; sort < 3; sort++) {
            DUE.is("sheet(0, " + sort + ", 40)", new GuardDesk().sheet(0, sort, 40), 40);
            DUE.is("sheet(0, " + sort + ", 41)", new GuardDesk().sheet(0, sort, 41), Due.BAD);
            DUE.is("sheet(0, " + sort + ", MAX)", new GuardDesk().sheet(0, sort, MAX), Due.BAD);
        }
        DUE.sentence("Promise 31", "n is below 0");
        for (int sort = 0; sort < 3; sort++) {
            DUE.is("sheet(0, " + sort + ", 0)", new GuardDesk().sheet(0, sort, 0), 0);
            DUE.is("sheet(0, " + sort + ", -1)", new GuardDesk().sheet(0, sort, -1), Due.SIZE);
            DUE.is("sheet(0, " + sort + ", MIN)", new GuardDesk().sheet(0, sort, MIN), Due.SIZE);
        }
        GuardDesk x = new GuardDesk();
        x.sheet(0, 0, -1);
        DUE.is("write(0, 0, 0): still missing", x.write(0, 0, 0), Due.NOTHING);
        x.sheet(0, 0, 0);
        DUE.is("write(0, 0, 0): empty, not missing", x.write(0, 0, 0), Due.PLACE);
        x.sheet(0, 0, 1);
        x.write(0, 0, 5);
        x.sheet(0, 0, -1);
        x.sheet(0, 0, 41);
        DUE.is("write(0, 0, 5): as it was", x.write(0, 0, 5), 5);
        DUE.is("write(0, 1, 5): no longer than it was", x.write(0, 1, 5), Due.PLACE);
    }

    private static void anew() {
        DUE.sentence("Promise 31", "A SHEET is a row of n numbers, all 0, of a SORT: n.");
        GuardDesk x = row(2, 40);
        for (int i = 0; i < 40; i++) {
            DUE.is("write(0, " + i + ", 9) of a new one", x.write(0, i, 9), 0);
        }
        x.sheet(0, 0, 3);
        x.sheet(0, 2, 40);
        for (int i = 0; i < 40; i++) {
            DUE.is("write(0, " + i + ", 9) of one made anew", x.write(0, i, 9), 0);
        }
        x.sheet(1, 2, 40);
        DUE.is("write(0, 39, 9): another sheet is another", x.write(0, 39, 9), 9);
        x.sheet(0, 1, 1);
        DUE.is("handFrom(0, 1, 0) of the new sort", x.handFrom(0, 1, 0), 0);
        DUE.is("handFrom(0, 2, 0) of the old sort", x.handFrom(0, 2, 0), Due.SORT);
    }

    private static void narrows(int sort, int v, int want) {
        GuardDesk x = row(sort, 1);
        x.write(0, 0, v);
        DUE.is(v + " in a row of sort " + sort, x.write(0, 0, 0), want);
    }

    private static void narrowed() {
        DUE.sentence("Promise 32", "narrowed to its SORT: what it was");
        int[][] bytes = {{127, 127}, {128, -128}, {-128, -128}, {-129, 127}, {255, -1}, {256, 0},
            {-256, 0}, {MAX, -1}, {MIN, 0}, {-1, -1}};
        for (int[] b : bytes) {
            narrows(0, b[0], b[1]);
        }
        int[][] shorts = {{32767, 32767}, {32768, -32768}, {-32768, -32768}, {-32769, 32767},
            {65535, -1}, {65536, 0}, {MAX, -1}, {MIN, 0}, {128, 128}};
        for (int[] s : shorts) {
            narrows(1, s[0], s[1]);
        }
        int[] ints = {MAX, MIN, 65536, -32769, 0, -1};
        for (int v : ints) {
            narrows(2, v, v);
        }
        lowNumbers();
    }

    /** What was in a row of ints is no finding, be it as low: it is told, written over, not counted. */
    private static void lowNumbers() {
        int[] low = {-1000000001, Due.BAD, Due.NONE, Due.NOTHING, Due.PLACE, Due.SORT, Due.SIZE, MIN};
        GuardDesk x = row(2, 1);
        int was = 0;
        for (int v : low) {
            DUE.is("write(0, 0, " + v + ")", x.write(0, 0, v), was);
            was = v;
        }
        DUE.is("write(0, 0, 5)", x.write(0, 0, 5), MIN);
        DUE.is("write(0, 0, 0)", x.write(0, 0, 0), 5);
        DUE.is("count(6)", x.count(6), 0);
    }

    private static void writePlaces() {
        DUE.sentence("Promise 32", "it is MISSING");
        DUE.is("write(0, 0, 0)", new GuardDesk().write(0, 0, 0), Due.NOTHING);
        DUE.is("write(0, -1, 0)", new GuardDesk().write(0, -1, 0), Due.NOTHING);
        DUE.is("write(0, 40, 0)", new GuardDesk().write(0, 40, 0), Due.NOTHING);
        DUE.is("write(1, 0, 0) beside another", row(0, 1).write(1, 0, 0), Due.NOTHING);
        DUE.sentence("Promise 32", "it has none such");
        for (int n = 0; n <= 40; n++) {
            GuardDesk x = row(n % 3, n);
            DUE.outside("write(0, i, 0) of " + n, 0, n - 1, i -> x.write(0, i, 0), Due.PLACE);
            if (n > 0) {
                DUE.is("write(0, 0, 0) of " + n, x.write(0, 0, 0), 0);
                DUE.is("write(0, " + (n - 1) + ", 0) of " + n, x.write(0, n - 1, 0), 0);
            }
        }
    }

    private static GuardDesk targets(int n) {
        GuardDesk x = new GuardDesk();
        for (int t = 0; t < n; t++) {
            x.target(3, 0, 0, 0, 1);
        }
        return x;
    }

    private static void handFromFindings() {
        DUE.sentence("Promise 33", "it is MISSING");
        for (int n = 0; n <= 10; n += 5) {
            GuardDesk x = targets(n);
            DUE.is("handFrom(0, 0, 0) of " + n, x.handFrom(0, 0, 0), Due.NOTHING);
            DUE.is("handFrom(3, 2, -1) of " + n, x.handFrom(3, 2, -1), Due.NOTHING);
        }
        DUE.sentence("Promise 33", "it is of another one");
        for (int sort = 0; sort < 3; sort++) {
            for (int taken = 0; taken < 3; taken++) {
                GuardDesk x = targets(1);
                x.sheet(2, sort, 1);
                String call = "handFrom(2, " + taken + ", 0) of sort " + sort;
                DUE.is(call, x.handFrom(2, taken, 0), taken == sort ? 0 : Due.SORT);
            }
        }
    }

    private static void handFromPlaces() {
        DUE.sentence("Promise 33", "it has not so many from i on");
        for (int n = 1; n <= 10; n++) {
            GuardDesk x = targets(n);
            x.sheet(0, 0, 40);
            DUE.outside("handFrom(0, 0, i) of " + n, 0, 40 - n, i -> x.handFrom(0, 0, i), Due.PLACE);
            DUE.is("handFrom(0, 0, 0) of " + n, x.handFrom(0, 0, 0), 0);
            DUE.is("handFrom(0, 0, " + (40 - n) + ") of " + n, x.handFrom(0, 0, 40 - n), 0);
            x.sheet(1, 0, n);
            DUE.is("handFrom of just so many", x.handFrom(1, 0, 0), 0);
            DUE.is("handFrom of just so many, from 1", x.handFrom(1, 0, 1), Due.PLACE);
            x.sheet(1, 0, n - 1);
            DUE.is("handFrom of one too few", x.handFrom(1, 0, 0), Due.PLACE);
            DUE.is("handFrom of one too few, from -1", x.handFrom(1, 0, -1), Due.PLACE);
            x.sheet(1, 0, 0);
            DUE.is("handFrom of none", x.handFrom(1, 0, 0), Due.PLACE);
        }
        DUE.sentence("Promise 33", "TARGET t's is number i + t");
        GuardDesk x = targets(10);
        x.sheet(0, 1, 40);
        for (int i = 0; i < 40; i++) {
            x.write(0, i, 1 + i);
        }
        int[] begins = {0, 1, 29, 30};
        for (int i : begins) {
            DUE.is("handFrom(0, 1, " + i + ")", x.handFrom(0, 1, i), 0);
            for (int t = 0; t < 10; t++) {
                DUE.is("of(" + t + ", 7)", x.of(t, 7), 1 + i + t);
            }
        }
    }

    private static void withoutTargets() {
        DUE.sentence("Promise 33", "(Without TARGETS any i will do.)");
        int[] places = {MIN, -1, 0, 1, 39, 40, 41, MAX};
        for (int n = 0; n <= 40; n += 20) {
            GuardDesk x = row(0, n);
            for (int i : places) {
                DUE.is("handFrom(0, 0, " + i + ") of " + n, x.handFrom(0, 0, i), 0);
            }
            DUE.is("handFrom(0, 1, 0): of another sort", x.handFrom(0, 1, 0), Due.SORT);
            DUE.is("handFrom(1, 0, 0): missing", x.handFrom(1, 0, 0), Due.NOTHING);
            DUE.is("count(6)", x.count(6), 2);
        }
        GuardDesk x = targets(1);
        x.sheet(0, 0, 0);
        DUE.is("handFrom(0, 0, 0) of one target", x.handFrom(0, 0, 0), Due.PLACE);
        x.drop();
        DUE.is("handFrom(0, 0, 0) of one dropped", x.handFrom(0, 0, 0), 0);
    }

    /** One target from 20 to 40, the hand at 30, and a row with v alone: the answer and the hand. */
    private static void taken(int sort, int v, int outside, int hand) {
        GuardDesk x = targets(1);
        x.bounds(0, 20, 40);
        x.put(0, 30);
        x.sheet(0, sort, 1);
        x.write(0, 0, v);
        DUE.is("handFrom of " + v + " in sort " + sort, x.handFrom(0, sort, 0), outside);
        DUE.is("of(0, 7) of " + v + " in sort " + sort, x.of(0, 7), hand);
    }

    private static void leastAndMost() {
        DUE.sentence("Promise 33", "what is below its LEAST being that, above its MOST that: how many "
            + "were so");
        for (int sort = 0; sort < 3; sort++) {
            taken(sort, 19, 1, 20);
            taken(sort, 20, 0, 20);
            taken(sort, 40, 0, 40);
            taken(sort, 41, 1, 40);
            taken(sort, -1, 1, 20);
        }
        taken(0, 127, 1, 40);
        taken(0, 128, 1, 20);
        taken(1, 32767, 1, 40);
        taken(1, 32768, 1, 20);
        taken(2, MAX, 1, 40);
        taken(2, MIN, 1, 20);
        GuardDesk x = targets(10);
        x.sheet(0, 2, 10);
        for (int t = 0; t < 10; t++) {
            x.write(0, t, t % 2 == 0 ? -1 - t : 61 + t);
        }
        DUE.is("handFrom with all outside", x.handFrom(0, 2, 0), 10);
        DUE.is("of(0, 7)", x.of(0, 7), 0);
        DUE.is("of(9, 7)", x.of(9, 7), 60);
        DUE.is("write(0, 0, 0): the sheet stays", x.write(0, 0, 0), -1);
        GuardDesk open = new GuardDesk();
        open.target(1, 0, 0, 0, 1);
        open.target(0, 0, 0, 0, 1);
        open.sheet(0, 0, 2);
        open.write(0, 0, 1);
        open.write(0, 1, 60);
        DUE.is("handFrom of 1 for an open one", open.handFrom(0, 0, 0), 1);
        DUE.is("of(0, 7) of an open one", open.of(0, 7), 0);
        DUE.is("of(1, 7) of another", open.of(1, 7), 60);
    }
}
