import java.util.function.Supplier;

/** The edges of promises 34 to 36. */
public final class KeepEdgeTest {
    private static final Due DUE = new Due("KeepEdgeTest");

    public static void main(String[] args) {
        allIsKept();
        butSheets();
        inPlaceOfWhatWas();
        stillKept();
        nothingKept();
        count();
        findingsEver();
        DUE.end();
    }

    /** Changes all that can be changed, with no finding and no fraction. */
    private static void changeAll(GuardDesk x) {
        while (x.count(0) > 0) {
            x.drop();
        }
        for (int t = 0; t < 10; t++) {
            x.target(3, 50, -50, 50, 1);
            x.put(t, 40);
            x.bounds(t, 1, 2);
        }
        x.guards(x.count(1) == 5 ? 6 : 5);
        for (int r = 0; r < x.count(2); r++) {
            x.bar(r, x.bar(r, true) == 0);
        }
        while (x.count(2) < 16) {
            x.road(9, 8, 1);
        }
        for (int p = 0; p < x.count(4); p++) {
            x.every(p, x.every(p, 1) % 8 + 1);
        }
        while (x.count(4) < 5) {
            x.post(7);
        }
        while (x.count(5) < 20) {
            x.haunt(512, 999);
        }
    }

    private static Supplier<GuardDesk> kept(Supplier<GuardDesk> desk, boolean changed) {
        return () -> {
            GuardDesk x = desk.get();
            x.keep();
            if (changed) {
                changeAll(x);
                x.back();
            }
            return x;
        };
    }

    private static void allIsKept() {
        DUE.sentence("Promise 34", "All (but SHEETS) is kept");
        DUE.holds("an empty desk comes back", Picture.of(kept(GuardDesk::new, true))
            .equals(Picture.of(kept(GuardDesk::new, false))));
        DUE.holds("a furnished desk comes back", Picture.of(kept(Desks::furnished, true))
            .equals(Picture.of(kept(Desks::furnished, false))));
        DUE.holds("a full desk comes back", Picture.of(kept(Desks::full, true))
            .equals(Picture.of(kept(Desks::full, false))));
        String before = Picture.of(Desks::full);
        String after = Picture.of(() -> {
            GuardDesk y = Desks.full();
            changeAll(y);
            return y;
        });
        DUE.holds("what is changed shows", !after.equals(before));
        DUE.sentence("Promise 34", "how many TARGETS");
        DUE.is("keep() of an empty desk", new GuardDesk().keep(), 0);
        DUE.is("keep() of a full desk", Desks.full().keep(), 10);
    }

    private static void butSheets() {
        DUE.sentence("Promise 34", "(but SHEETS)");
        GuardDesk x = new GuardDesk();
        x.sheet(0, 0, 2);
        x.write(0, 1, 5);
        x.sheet(1, 0, 2);
        x.keep();
        x.write(0, 1, 6);
        x.sheet(1, 2, 4);
        x.sheet(2, 1, 1);
        x.back();
        DUE.is("a number written since", x.write(0, 1, 0), 6);
        DUE.is("a row made anew since", x.write(1, 3, 0), 0);
        DUE.is("a sort since", x.handFrom(1, 2, 0), 0);
        DUE.is("a row made since", x.write(2, 0, 0), 0);
        DUE.is("a row still missing", x.write(3, 0, 0), Due.NOTHING);
    }

    private static void inPlaceOfWhatWas() {
        DUE.sentence("Promise 34", "in place of what was");
        GuardDesk x = new GuardDesk();
        x.target(0, 0, 0, 0, 1);
        DUE.is("keep()", x.keep(), 1);
        x.target(0, 0, 0, 0, 1);
        DUE.is("keep()", x.keep(), 2);
        x.drop();
        x.drop();
        DUE.is("back()", x.back(), 2);
        x.drop();
        x.drop();
        DUE.is("keep() of none left", x.keep(), 0);
        x.target(0, 0, 0, 0, 1);
        DUE.is("back() to none", x.back(), 0);
        DUE.is("count(0)", x.count(0), 0);
    }

    private static void stillKept() {
        DUE.sentence("Promise 35", "It is as it was kept (still kept): how many TARGETS.");
        GuardDesk x = new GuardDesk();
        x.target(0, 0, 0, 0, 1);
        x.put(0, 7);
        x.keep();
        DUE.is("back() at once", x.back(), 1);
        for (int time = 0; time < 3; time++) {
            x.put(0, 50 + time);
            x.guards(4 + time);
            x.target(0, 0, 0, 0, 1);
            DUE.is("back()", x.back(), 1);
            DUE.is("of(0, 7)", x.of(0, 7), 7);
            DUE.is("count(1)", x.count(1), 1);
        }
    }

    private static void nothingKept() {
        DUE.sentence("Promise 35", "nothing is kept");
        GuardDesk x = new GuardDesk();
        DUE.is("back()", x.back(), Due.NOTHING);
        x.target(0, 0, 0, 0, 1);
        x.guards(2);
        DUE.is("back() of a desk in use", x.back(), Due.NOTHING);
        DUE.is("count(0)", x.count(0), 1);
        DUE.is("count(1)", x.count(1), 2);
        DUE.is("count(6)", x.count(6), 2);
        DUE.is("keep()", x.keep(), 1);
        DUE.is("back()", x.back(), 1);
        GuardDesk y = new GuardDesk();
        DUE.is("keep() of an empty desk", y.keep(), 0);
        DUE.is("back() to an empty desk: that is something kept", y.back(), 0);
    }

    private static void count() {
        DUE.sentence("Promise 36", "BAD.");
        DUE.range("count(what)", 0, 6, what -> new GuardDesk().count(what), what -> 0);
        DUE.sentence("Promise 36", "0 TARGETS, 1 GUARDS, 2 ROADS, 3 of these BARRED, 4 POSTS, 5 HAUNTS");
        int[] empty = {0, 1, 0, 0, 0, 0};
        int[] most = {10, 9, 16, 3, 5, 20};
        GuardDesk none = new GuardDesk();
        GuardDesk full = Desks.full();
        for (int what = 0; what < 6; what++) {
            DUE.is("count(" + what + ") of an empty desk", none.count(what), empty[what]);
            DUE.is("count(" + what + ") of a full desk", full.count(what), most[what]);
        }
        for (int r = 0; r < 16; r++) {
            full.bar(r, true);
        }
        DUE.is("count(3) of sixteen", full.count(3), 16);
    }

    private static void findingsEver() {
        DUE.sentence("Promise 36", "6 findings of the host ever (NOTHING, PLACE, SORT, SIZE)");
        GuardDesk x = new GuardDesk();
        int[] answers = {x.drop(), x.visit(0), x.write(0, 0, 0), x.handFrom(0, 0, 0), x.back()};
        for (int answer : answers) {
            DUE.is("a finding of the host", answer, Due.NOTHING);
        }
        DUE.is("count(6): NOTHING, five times", x.count(6), 5);
        x.target(0, 0, 0, 0, 1);
        x.sheet(0, 0, 0);
        DUE.is("write", x.write(0, 0, 0), Due.PLACE);
        DUE.is("handFrom", x.handFrom(0, 0, 0), Due.PLACE);
        DUE.is("count(6): and PLACE, twice", x.count(6), 7);
        DUE.is("bounds", x.bounds(0, 0, 0), Due.SORT);
        DUE.is("handFrom", x.handFrom(0, 1, 0), Due.SORT);
        DUE.is("count(6): and SORT, twice", x.count(6), 9);
        DUE.is("sheet", x.sheet(0, 0, -1), Due.SIZE);
        DUE.is("count(6): and SIZE", x.count(6), 10);
        DUE.is("a BAD one", x.guards(11), Due.BAD);
        DUE.is("a BAD one", x.count(7), Due.BAD);
        DUE.is("none", x.team(9), Due.NONE);
        DUE.is("none", x.shortest(0, 1), Due.NONE);
        DUE.is("count(6): not BAD, not NONE", x.count(6), 10);
        x.keep();
        x.sheet(0, 0, -1);
        x.back();
        DUE.is("count(6): ever, also behind back()", x.count(6), 11);
        x.sheet(1, 2, 1);
        x.write(1, 0, Due.NOTHING);
        DUE.is("what a sheet had, though it looks like a finding", x.write(1, 0, 0), Due.NOTHING);
        DUE.is("count(6): that was none", x.count(6), 11);
    }
}
