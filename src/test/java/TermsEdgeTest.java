/** The edges that the document names ahead of its promises, and promise 1. */
public final class TermsEdgeTest {
    private static final Due DUE = new Due("TermsEdgeTest");

    public static void main(String[] args) {
        newObject();
        lastCall();
        findings();
        order();
        orderOfSheets();
        lowestTerms();
        below();
        DUE.end();
    }

    private static void newObject() {
        DUE.sentence("Promise 1", "No TARGETS, ROADS, POSTS, HAUNTS");
        GuardDesk x = new GuardDesk();
        DUE.is("count(0)", x.count(0), 0);
        DUE.is("count(2)", x.count(2), 0);
        DUE.is("count(3)", x.count(3), 0);
        DUE.is("count(4)", x.count(4), 0);
        DUE.is("count(5)", x.count(5), 0);
        DUE.is("of(0, 0)", x.of(0, 0), Due.BAD);
        DUE.is("bar(0, false)", x.bar(0, false), Due.BAD);
        DUE.is("every(0, 1)", x.every(0, 1), Due.BAD);
        DUE.is("caught(1023)", x.caught(1023), 0);
        for (int from = 0; from < 10; from++) {
            for (int to = 0; to < 10; to++) {
                String call = "shortest(" + from + ", " + to + ")";
                DUE.is(call, x.shortest(from, to), from == to ? 0 : Due.NONE);
            }
        }
        DUE.sentence("Promise 1", "1 GUARD");
        DUE.is("count(1)", new GuardDesk().count(1), 1);
        DUE.is("guards(0)", new GuardDesk().guards(0), 1);
        DUE.sentence("Promise 1", "all SHEETS MISSING");
        for (int s = 0; s < 4; s++) {
            DUE.is("write(" + s + ", 0, 0)", new GuardDesk().write(s, 0, 0), Due.NOTHING);
            for (int sort = 0; sort < 3; sort++) {
                String call = "handFrom(" + s + ", " + sort + ", 0)";
                DUE.is(call, new GuardDesk().handFrom(s, sort, 0), Due.NOTHING);
            }
        }
        DUE.sentence("Promise 1", "nothing is kept");
        DUE.is("back()", new GuardDesk().back(), Due.NOTHING);
        DUE.sentence("Terms", "or MISSING (at first)");
        DUE.is("write(0, 0, 0)", new GuardDesk().write(0, 0, 0), Due.NOTHING);
        DUE.is("write(3, 39, 0)", new GuardDesk().write(3, 39, 0), Due.NOTHING);
    }

    private static void lastCall() {
        DUE.sentence("What it is", "An object is used for at most 512 calls after it has been made");
        GuardDesk x = new GuardDesk();
        for (int call = 1; call < 512; call++) {
            DUE.is("drop() as call " + call, x.drop(), Due.NOTHING);
        }
        DUE.is("count(6) as call 512", x.count(6), 511);
        GuardDesk y = Desks.full();
        for (int call = 100; call < 512; call += 4) {
            y.visit(1000);
            y.bars(0, 9, 4);
            y.chance(0);
            y.back();
        }
        DUE.is("full desks answer to the end", y.count(0), 10);
    }

    private static void findings() {
        DUE.sentence("Terms", "-1000000002 BAD");
        DUE.is("count(7)", new GuardDesk().count(7), -1000000002);
        DUE.sentence("Terms", "-1000000003 NONE");
        DUE.is("best()", new GuardDesk().best(), -1000000003);
        DUE.sentence("Terms", "-1000000010 NOTHING");
        DUE.is("drop()", new GuardDesk().drop(), -1000000010);
        DUE.sentence("Terms", "-1000000011 PLACE");
        GuardDesk x = new GuardDesk();
        x.sheet(0, 0, 1);
        DUE.is("write(0, 1, 0)", x.write(0, 1, 0), -1000000011);
        DUE.sentence("Terms", "-1000000012 SORT");
        DUE.is("handFrom(0, 1, 0)", x.handFrom(0, 1, 0), -1000000012);
        DUE.sentence("Terms", "-1000000013 SIZE");
        DUE.is("sheet(0, 0, -1)", x.sheet(0, 0, -1), -1000000013);
    }

    private static void order() {
        DUE.sentence("Terms", "what is wrong is asked in the order in which it is told");
        GuardDesk x = new GuardDesk();
        for (int kind = 0; kind < 4; kind++) {
            x.target(kind, 0, 0, 0, 1);
        }
        DUE.is("bounds: no such target, ahead of all", x.bounds(4, 61, 61), Due.BAD);
        DUE.is("bounds: most, ahead of the kind", x.bounds(1, 0, 61), Due.BAD);
        DUE.is("bounds: least, ahead of the kind", x.bounds(0, 6, 5), Due.BAD);
        DUE.is("bounds: the kind, ahead of a weak one's least", x.bounds(0, 5, 5), Due.SORT);
        DUE.is("bounds: a weak one's least", x.bounds(2, 5, 5), Due.BAD);
        GuardDesk y = new GuardDesk();
        DUE.is("share: no such target, ahead of no plan", y.share(0), Due.BAD);
        DUE.is("errs: too far, ahead of no targets", y.errs(3601), Due.BAD);
        DUE.is("errs: no targets", y.errs(3600), Due.NONE);
        DUE.is("shortest: no place, ahead of no way", y.shortest(0, 10), Due.BAD);
        DUE.is("visit: no tick, ahead of no posts", y.visit(1001), Due.BAD);
        DUE.is("visit: no posts", y.visit(1000), Due.NOTHING);
        y.post(1);
        y.post(1);
        DUE.is("visit: no tick, ahead of no watch", y.visit(-1), Due.BAD);
        DUE.is("visit: no watch", y.visit(0), Due.NONE);
    }

    private static void orderOfSheets() {
        GuardDesk x = new GuardDesk();
        x.target(0, 0, 0, 0, 1);
        x.sheet(1, 1, 1);
        DUE.sentence("Terms", "what is wrong is asked in the order in which it is told");
        DUE.is("sheet: no such sheet, ahead of the size", x.sheet(4, 0, -1), Due.BAD);
        DUE.is("sheet: no such sort, ahead of the size", x.sheet(0, 3, -1), Due.BAD);
        DUE.is("sheet: the size", x.sheet(0, 0, -1), Due.SIZE);
        DUE.is("write: no such sheet, ahead of all", x.write(4, -1, 0), Due.BAD);
        DUE.is("write: missing, ahead of the place", x.write(0, -1, 0), Due.NOTHING);
        DUE.is("write: the place", x.write(1, -1, 0), Due.PLACE);
        DUE.is("handFrom: no such sheet, ahead of all", x.handFrom(4, 0, -1), Due.BAD);
        DUE.is("handFrom: no such sort, ahead of missing", x.handFrom(0, 3, -1), Due.BAD);
        DUE.is("handFrom: missing, ahead of the place", x.handFrom(0, 0, -1), Due.NOTHING);
        DUE.is("handFrom: another sort, ahead of the place", x.handFrom(1, 0, -1), Due.SORT);
        DUE.is("handFrom: the place", x.handFrom(1, 1, -1), Due.PLACE);
    }

    /** One target with the share v sixtieths, which is just what it may have. */
    private static GuardDesk oneShare(int v) {
        GuardDesk x = new GuardDesk();
        x.target(3, 60, 0, 60, 60);
        x.bounds(0, v, v);
        return x;
    }

    private static void lowestTerms() {
        DUE.sentence("Terms", "FRACTIONS are told in lowest terms: what is above is answered");
        for (int v = 0; v <= 60; v++) {
            GuardDesk x = oneShare(v);
            Ratio want = new Ratio(v, 60);
            DUE.fraction("share(0) of " + v, x, x.share(0), want.above(), want.below());
        }
        GuardDesk x = new GuardDesk();
        x.target(0, 60, -60, 60, 60);
        x.put(0, 1);
        DUE.fraction("handWorth() of -3480 by 60", x, x.handWorth(), -58, 1);
        x.target(0, 0, -1, -60, 60);
        x.put(0, 60);
        x.put(1, 60);
        x.target(0, 0, -7, 60, 1);
        x.put(2, 4);
        DUE.fraction("handWorth() of -392 by 60", x, x.handWorth(), -98, 15);
    }

    private static void below() {
        DUE.sentence("Terms", "below() tells what is below (above 0; 1 at first, and of 0)");
        DUE.is("below() at first", new GuardDesk().below(), 1);
        GuardDesk x = oneShare(59);
        DUE.is("share(0)", x.share(0), 59);
        DUE.is("below()", x.below(), 60);
        x.put(0, 59);
        x.target(0, -1, -60, 60, 1);
        x.put(1, 1);
        DUE.is("handWorth() below 0", x.handWorth(), -3541);
        DUE.is("below() of what is below 0", x.below(), 60);
        x.bounds(0, 0, 60);
        x.guards(0);
        DUE.is("share(0) of 0", x.share(0), 0);
        DUE.is("below() of 0", x.below(), 1);
    }
}
