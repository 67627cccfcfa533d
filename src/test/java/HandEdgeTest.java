/** The edges of promises 12 to 16, and of what the terms say of the hand. */
public final class HandEdgeTest {
    private static final Due DUE = new Due("HandEdgeTest");

    public static void main(String[] args) {
        atFirst();
        noSuchTarget();
        leastToMost();
        spare();
        noTargets();
        ties();
        errsRange();
        errsEdge();
        DUE.end();
    }

    private static GuardDesk withTargets(int n) {
        GuardDesk x = new GuardDesk();
        for (int t = 0; t < n; t++) {
            x.target(3, 6, 0, 6, 6);
        }
        return x;
    }

    private static void atFirst() {
        DUE.sentence("Terms", "(all LEASTS at first; it needs not keep to GUARDS)");
        for (int kind = 0; kind < 4; kind++) {
            GuardDesk x = new GuardDesk();
            x.target(kind, 0, 0, 0, 1);
            DUE.is("of(0, 7) of kind " + kind, x.of(0, 7), 0);
        }
        GuardDesk x = withTargets(10);
        x.guards(0);
        for (int t = 0; t < 10; t++) {
            DUE.is("put(" + t + ", 60) without guards", x.put(t, 60), 0);
        }
        DUE.is("comes() by more than the guards", x.comes(), 0);
        DUE.fraction("handWorth() by more than the guards", x, x.handWorth(), 6, 1);
    }

    private static void noSuchTarget() {
        DUE.sentence("Promise 12", "no such TARGET");
        for (int n = 0; n <= 10; n++) {
            GuardDesk x = withTargets(n);
            DUE.outside("put(t, 0) of " + n, 0, n - 1, t -> x.put(t, 0), Due.BAD);
            for (int t = 0; t < n; t++) {
                DUE.is("put(" + t + ", 0) of " + n, x.put(t, 0), 0);
            }
        }
    }

    private static void leastToMost() {
        DUE.sentence("Promise 12", "v is not LEAST .. MOST");
        int[][] bounds = {{0, 0}, {0, 60}, {60, 60}, {1, 59}, {20, 20}, {30, 31}};
        for (int[] b : bounds) {
            String call = "put(0, v) of " + b[0] + " to " + b[1];
            DUE.range(call, b[0], b[1], v -> {
                GuardDesk x = withTargets(1);
                x.bounds(0, b[0], b[1]);
                return x.put(0, v);
            }, v -> 0);
        }
        GuardDesk open = new GuardDesk();
        open.target(1, 0, 0, 0, 1);
        DUE.range("put(0, v) of an open one", 0, 0, v -> open.put(0, v), v -> 0);
        GuardDesk plain = new GuardDesk();
        plain.target(0, 0, 0, 0, 1);
        DUE.outside("put(0, v) of a plain one", 0, 60, v -> plain.put(0, v), Due.BAD);
        DUE.sentence("Promise 12", "THE HAND has v sixtieths for a TARGET: what it had.");
        for (int v = 1; v <= 60; v++) {
            DUE.is("put(0, " + v + ")", plain.put(0, v), v - 1);
            DUE.is("of(0, 7)", plain.of(0, 7), v);
        }
    }

    private static void spare() {
        DUE.sentence("Promise 13", "How many sixtieths THE HAND has above GUARDS (below 0: less).");
        DUE.is("spare() of a new object", new GuardDesk().spare(), -60);
        GuardDesk none = new GuardDesk();
        none.guards(10);
        DUE.is("spare() of no targets and ten guards", none.spare(), -600);
        none.guards(0);
        DUE.is("spare() of no targets and no guards", none.spare(), 0);
        GuardDesk x = withTargets(10);
        x.guards(0);
        for (int t = 0; t < 10; t++) {
            x.put(t, 60);
        }
        DUE.is("spare() of ten whole ones and no guards", x.spare(), 600);
        x.guards(10);
        DUE.is("spare() of ten whole ones and ten guards", x.spare(), 0);
        x.put(9, 59);
        DUE.is("spare() of a sixtieth less", x.spare(), -1);
        x.guards(9);
        DUE.is("spare() of a guard less", x.spare(), 59);
        x.drop();
        DUE.is("spare() of a target less", x.spare(), 0);
    }

    private static void noTargets() {
        DUE.sentence("Promise 14", "there are no TARGETS");
        DUE.is("comes() of a new object", new GuardDesk().comes(), Due.NONE);
        GuardDesk x = withTargets(1);
        DUE.is("comes() of one", x.comes(), 0);
        x.drop();
        DUE.is("comes() of the last dropped", x.comes(), Due.NONE);
        DUE.sentence("Promise 15", "NONE.");
        DUE.is("handWorth() of a new object", new GuardDesk().handWorth(), Due.NONE);
        DUE.is("handWorth() of the last dropped", x.handWorth(), Due.NONE);
        DUE.sentence("Promise 16", "NONE.");
        DUE.is("errs(0) of a new object", new GuardDesk().errs(0), Due.NONE);
        DUE.is("errs(3600) of the last dropped", x.errs(3600), Due.NONE);
    }

    private static void ties() {
        DUE.sentence("Terms", "of several to one that is worth most to the keeper, of these to the least");
        GuardDesk x = new GuardDesk();
        x.target(0, 0, -3, 6, 6);
        x.target(0, 0, -2, 6, 6);
        for (int t = 2; t < 10; t++) {
            x.target(0, 0, -2, 6, 6);
        }
        DUE.is("comes() of nine alike behind one worth less to the keeper", x.comes(), 1);
        DUE.fraction("handWorth() of these", x, x.handWorth(), -2, 1);
        x.put(1, 1);
        DUE.is("comes() when one is worth a little less to the thief", x.comes(), 2);
        for (int t = 2; t < 10; t++) {
            x.put(t, 1);
        }
        DUE.is("comes() when only the one worth less is left", x.comes(), 0);
        DUE.fraction("handWorth() of that one", x, x.handWorth(), -3, 1);
        x.put(0, 1);
        DUE.is("comes() when all are alike to the thief again", x.comes(), 1);
        DUE.fraction("handWorth() then", x, x.handWorth(), -59, 30);
        DUE.sentence("Terms", "The thief comes to a TARGET that is worth most to them");
        GuardDesk y = new GuardDesk();
        y.target(0, 60, 60, 6, 1);
        y.target(0, -60, -60, 6, 1);
        DUE.is("comes() of two worth as much to the thief", y.comes(), 0);
        y.put(0, 1);
        DUE.is("comes() of one that is worth a sixtieth more", y.comes(), 1);
        DUE.fraction("handWorth() of that one", y, y.handWorth(), -60, 1);
        y.put(1, 2);
        DUE.is("comes() of one that is worth a sixtieth less", y.comes(), 0);
    }

    private static void errsRange() {
        DUE.sentence("Promise 16", "e is not 0 .. 3600");
        GuardDesk x = withTargets(1);
        x.put(0, 60);
        DUE.range("errs(e)", 0, 3600, x::errs, e -> 6);
        DUE.outside("errs(e) without targets", 0, 3600, e -> new GuardDesk().errs(e), Due.BAD);
    }

    private static void errsEdge() {
        DUE.sentence("Promise 16", "as much as the best one, less e sixtieths, or more");
        GuardDesk x = new GuardDesk();
        x.target(0, 9, 9, 60, 1);
        x.target(0, 8, 8, 60, 1);
        x.target(0, 7, 7, 60, 1);
        x.put(2, 1);
        x.target(1, 6, 6, 59, 1);
        x.target(1, 5, 5, 1, 1);
        x.target(1, 4, 4, 0, 1);
        x.target(1, 3, 3, -1, 1);
        DUE.fraction("errs(0): what is worth just as much", x, x.errs(0), 8, 1);
        DUE.fraction("errs(1): what is worth one sixtieth less", x, x.errs(1), 7, 1);
        DUE.fraction("errs(59)", x, x.errs(59), 7, 1);
        DUE.fraction("errs(60): what is worth one less", x, x.errs(60), 6, 1);
        DUE.fraction("errs(3539)", x, x.errs(3539), 6, 1);
        DUE.fraction("errs(3540): what is worth 59 less", x, x.errs(3540), 5, 1);
        DUE.fraction("errs(3599)", x, x.errs(3599), 5, 1);
        DUE.fraction("errs(3600): what is worth 60 less", x, x.errs(3600), 4, 1);
        GuardDesk y = new GuardDesk();
        y.target(0, -9, -9, 1, 1);
        y.target(0, 9, 9, 60, 1);
        DUE.fraction("errs(3539): the first is worth too little", y, y.errs(3539), 9, 1);
        DUE.fraction("errs(3540): the first is worth just enough", y, y.errs(3540), -9, 1);
        DUE.is("comes() is another", x.comes(), 0);
        DUE.fraction("handWorth() is another", x, x.handWorth(), 9, 1);
    }
}
