/** Promises 31 to 33: sheet, write, handFrom. */
public final class SheetsTest {
    private static final Due DUE = new Due("SheetsTest");

    public static void main(String[] args) {
        sheet();
        write();
        handFrom();
        handFromPlaces();
        handFromOrder();
        DUE.end();
    }

    private static void sheet() {
        GuardDesk x = new GuardDesk();
        DUE.is("sheet(0, 0, 40)", x.sheet(0, 0, 40), 40);
        DUE.is("sheet(3, 2, 0)", x.sheet(3, 2, 0), 0);
        DUE.is("write(3, 0, 1): it has none, but is there", x.write(3, 0, 1), Due.PLACE);
        DUE.is("write(0, 39, 9)", x.write(0, 39, 9), 0);
        int[][] bad = {{-1, 0, 1}, {4, 0, 1}, {0, -1, 1}, {0, 3, 1}, {0, 0, 41}, {4, 0, -1}, {0, 3, -1}};
        for (int[] w : bad) {
            String call = "sheet(" + w[0] + ", " + w[1] + ", " + w[2] + ")";
            DUE.is(call, x.sheet(w[0], w[1], w[2]), Due.BAD);
        }
        for (int far : Due.FAR) {
            DUE.is("sheet(far, 0, 1)", x.sheet(far, 0, 1), Due.BAD);
            DUE.is("sheet(0, far, 1)", x.sheet(0, far, 1), Due.BAD);
            DUE.is("sheet(0, 0, far)", x.sheet(0, 0, far), far < 0 ? Due.SIZE : Due.BAD);
        }
        DUE.is("sheet(0, 0, -1)", x.sheet(0, 0, -1), Due.SIZE);
        DUE.is("count(6)", x.count(6), 4);
        DUE.is("write(0, 39, 8): as it was", x.write(0, 39, 8), 9);
        DUE.is("sheet(0, 0, 40)", x.sheet(0, 0, 40), 40);
        DUE.is("write(0, 39, 8): all 0", x.write(0, 39, 8), 0);
        x.sheet(0, 2, 3);
        DUE.is("write(0, 3, 1)", x.write(0, 3, 1), Due.PLACE);
        x.sheet(0, 2, 40);
        DUE.is("write(0, 39, 1): all 0 again", x.write(0, 39, 1), 0);
    }

    private static void write() {
        GuardDesk x = new GuardDesk();
        DUE.is("write(0, 0, 0)", x.write(0, 0, 0), Due.NOTHING);
        DUE.is("write(0, -1, 0)", x.write(0, -1, 0), Due.NOTHING);
        DUE.is("write(4, 0, 0)", x.write(4, 0, 0), Due.BAD);
        DUE.is("write(-1, 0, 0)", x.write(-1, 0, 0), Due.BAD);
        int[] values = {127, 128, -129, 32767, 32768, -32769, 255, 65535, 65536, Integer.MIN_VALUE,
            Integer.MAX_VALUE, 0};
        for (int sort = 0; sort < 3; sort++) {
            x.sheet(sort, sort, 2);
            int before = 0;
            for (int v : values) {
                DUE.is("write " + v + " into sort " + sort, x.write(sort, 1, v), before);
                before = sort == 0 ? (byte) v : sort == 1 ? (short) v : v;
            }
            DUE.is("write(" + sort + ", 0, 0)", x.write(sort, 0, 0), 0);
            DUE.is("write(" + sort + ", 2, 0)", x.write(sort, 2, 0), Due.PLACE);
            DUE.is("write(" + sort + ", -1, 0)", x.write(sort, -1, 0), Due.PLACE);
        }
        for (int far : Due.FAR) {
            DUE.is("write(far, 0, 0)", x.write(far, 0, 0), Due.BAD);
            DUE.is("write(0, far, 0)", x.write(0, far, 0), Due.PLACE);
        }
        DUE.is("count(6)", x.count(6), 2 + 6 + 4);
    }

    private static GuardDesk threeTargets() {
        GuardDesk x = new GuardDesk();
        x.target(0, 1, 0, 1, 1);
        x.target(1, 1, 0, 1, 1);
        x.target(3, 1, 0, 1, 1);
        x.bounds(2, 10, 20);
        return x;
    }

    private static void fill(GuardDesk x, int s, int sort, int... values) {
        x.sheet(s, sort, values.length);
        for (int i = 0; i < values.length; i++) {
            x.write(s, i, values[i]);
        }
    }

    private static void hand(GuardDesk x, int... want) {
        for (int t = 0; t < want.length; t++) {
            DUE.is("of(" + t + ", 7)", x.of(t, 7), want[t]);
        }
    }

    private static void handFrom() {
        GuardDesk x = threeTargets();
        fill(x, 1, 0, 30, 0, 15, 10, 20, 61, -1);
        DUE.is("handFrom(1, 0, 0): none outside", x.handFrom(1, 0, 0), 0);
        hand(x, 30, 0, 15);
        DUE.is("handFrom(1, 0, 1)", x.handFrom(1, 0, 1), 1);
        hand(x, 0, 0, 10);
        DUE.is("handFrom(1, 0, 2)", x.handFrom(1, 0, 2), 1);
        hand(x, 15, 0, 20);
        DUE.is("handFrom(1, 0, 3)", x.handFrom(1, 0, 3), 2);
        hand(x, 10, 0, 20);
        DUE.is("handFrom(1, 0, 4)", x.handFrom(1, 0, 4), 2);
        hand(x, 20, 0, 10);
        DUE.is("handFrom(1, 0, 5)", x.handFrom(1, 0, 5), Due.PLACE);
        hand(x, 20, 0, 10);
        fill(x, 0, 0, 200, 0, 11);
        DUE.is("handFrom of a byte below 0", x.handFrom(0, 0, 0), 1);
        hand(x, 0, 0, 11);
        fill(x, 2, 1, 200, -5, 40000);
        DUE.is("handFrom of shorts", x.handFrom(2, 1, 0), 3);
        hand(x, 60, 0, 10);
        fill(x, 3, 2, Integer.MAX_VALUE, Integer.MIN_VALUE, 70000);
        DUE.is("handFrom of ints", x.handFrom(3, 2, 0), 3);
        hand(x, 60, 0, 20);
        DUE.is("count(6)", x.count(6), 1);
    }

    private static void handFromPlaces() {
        GuardDesk x = threeTargets();
        x.sheet(0, 0, 3);
        x.sheet(1, 0, 2);
        x.sheet(2, 0, 0);
        DUE.is("handFrom(0, 0, 1)", x.handFrom(0, 0, 1), Due.PLACE);
        DUE.is("handFrom(0, 0, -1)", x.handFrom(0, 0, -1), Due.PLACE);
        DUE.is("handFrom(1, 0, 0)", x.handFrom(1, 0, 0), Due.PLACE);
        DUE.is("handFrom(1, 0, -1)", x.handFrom(1, 0, -1), Due.PLACE);
        DUE.is("handFrom(2, 0, 0)", x.handFrom(2, 0, 0), Due.PLACE);
        for (int far : Due.FAR) {
            DUE.is("handFrom(0, 0, far)", x.handFrom(0, 0, far), Due.PLACE);
        }
        for (int t = 0; t < 3; t++) {
            x.drop();
        }
        for (int far : Due.FAR) {
            DUE.is("handFrom(0, 0, far) without targets", x.handFrom(0, 0, far), 0);
            DUE.is("handFrom(2, 0, far) without targets", x.handFrom(2, 0, far), 0);
        }
        DUE.is("handFrom(3, 0, 0) without targets", x.handFrom(3, 0, 0), Due.NOTHING);
        DUE.is("handFrom(0, 1, 0) without targets", x.handFrom(0, 1, 0), Due.SORT);
    }

    private static void handFromOrder() {
        GuardDesk x = threeTargets();
        DUE.is("no such sheet", x.handFrom(4, 0, 0), Due.BAD);
        DUE.is("no such sheet", x.handFrom(-1, 0, 0), Due.BAD);
        DUE.is("no such sort of a missing one", x.handFrom(0, 3, 0), Due.BAD);
        DUE.is("no such sort of a missing one", x.handFrom(0, -1, 0), Due.BAD);
        for (int far : Due.FAR) {
            DUE.is("handFrom(far, 0, 0)", x.handFrom(far, 0, 0), Due.BAD);
            DUE.is("handFrom(0, far, 0)", x.handFrom(0, far, 0), Due.BAD);
        }
        DUE.is("missing, whatever the place", x.handFrom(0, 2, -1), Due.NOTHING);
        x.sheet(0, 1, 1);
        DUE.is("another sort, whatever the place", x.handFrom(0, 0, -1), Due.SORT);
        DUE.is("another sort, whatever the place", x.handFrom(0, 2, 5), Due.SORT);
        DUE.is("the place", x.handFrom(0, 1, 0), Due.PLACE);
        DUE.is("count(6)", x.count(6), 4);
        hand(x, 0, 0, 0);
    }
}
