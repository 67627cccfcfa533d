/** The edges of promises 17 to 19, and of what the terms say of lots. */
public final class LotsEdgeTest {
    private static final Due DUE = new Due("LotsEdgeTest");

    public static void main(String[] args) {
        noPlan();
        noSuchLot();
        zeroAndOne();
        beginAndEnd();
        aroundWholeNumbers();
        emptyShares();
        elevenLots();
        DUE.end();
    }

    /** Targets that may have just these shares, in sixtieths. */
    private static GuardDesk shares(int guards, int... sixtieths) {
        GuardDesk x = new GuardDesk();
        x.guards(guards);
        for (int t = 0; t < sixtieths.length; t++) {
            x.target(3, 0, 0, 0, 1);
            x.bounds(t, sixtieths[t], sixtieths[t]);
        }
        return x;
    }

    private static void lot(GuardDesk x, int i, int team, int above, int below) {
        DUE.is("team(" + i + ")", x.team(i), team);
        DUE.fraction("chance(" + i + ")", x, x.chance(i), above, below);
    }

    private static void last(GuardDesk x, int n) {
        DUE.is("lots()", x.lots(), n);
        DUE.is("team(" + n + ")", x.team(n), Due.NONE);
        DUE.is("chance(" + n + ")", x.chance(n), Due.NONE);
    }

    private static void noPlan() {
        DUE.sentence("Promise 17", "there is no BEST PLAN");
        DUE.is("lots() without targets", new GuardDesk().lots(), Due.NONE);
        DUE.is("lots() with leasts above the guards", shares(0, 1).lots(), Due.NONE);
        DUE.is("lots() with leasts that are the guards", shares(1, 59, 1).lots(), 2);
        DUE.is("lots() with leasts a sixtieth above", shares(1, 59, 2).lots(), Due.NONE);
    }

    private static void noSuchLot() {
        DUE.sentence("Promise 18", "there is none such");
        GuardDesk x = shares(1, 20, 20);
        DUE.is("lots()", x.lots(), 3);
        DUE.is("team(0)", x.team(0), 1);
        DUE.is("team(2)", x.team(2), 0);
        DUE.outside("team(i) of three", 0, 2, x::team, Due.NONE);
        DUE.is("team(0) without a plan", shares(0, 1).team(0), Due.NONE);
        DUE.is("team(0) without targets", new GuardDesk().team(0), Due.NONE);
        DUE.sentence("Promise 19", "NONE.");
        DUE.fraction("chance(0)", x, x.chance(0), 1, 3);
        DUE.fraction("chance(2)", x, x.chance(2), 1, 3);
        DUE.outside("chance(i) of three", 0, 2, x::chance, Due.NONE);
        DUE.is("chance(0) without a plan", shares(0, 1).chance(0), Due.NONE);
        DUE.is("chance(0) without targets", new GuardDesk().chance(0), Due.NONE);
    }

    private static void zeroAndOne() {
        DUE.sentence("Terms", "each row of z between two such that follow one another (0 and 1, too) is a "
            + "LOT");
        GuardDesk none = shares(0, 0);
        last(none, 1);
        lot(none, 0, 0, 1, 1);
        GuardDesk whole = shares(1, 60);
        last(whole, 1);
        lot(whole, 0, 1, 1, 1);
        GuardDesk first = shares(1, 1);
        last(first, 2);
        lot(first, 0, 1, 1, 60);
        lot(first, 1, 0, 59, 60);
        GuardDesk all = shares(1, 59);
        last(all, 2);
        lot(all, 0, 1, 59, 60);
        lot(all, 1, 0, 1, 60);
    }

    private static void beginAndEnd() {
        DUE.sentence("Terms", "(begin included, end not)");
        GuardDesk x = shares(1, 30, 30);
        last(x, 2);
        lot(x, 0, 1, 1, 2);
        lot(x, 1, 2, 1, 2);
        // The second begins just where z + 1 begins for z = 0.
        GuardDesk y = shares(2, 60, 30);
        last(y, 2);
        lot(y, 0, 3, 1, 2);
        lot(y, 1, 1, 1, 2);
        // The level is 359 by 60, so that target 0 has a share of no more than 1 by 3600.
        GuardDesk tiny = new GuardDesk();
        tiny.target(0, 0, 0, 6, 60);
        tiny.target(2, 0, 0, 6, 1);
        tiny.bounds(1, 0, 1);
        DUE.fraction("share(0)", tiny, tiny.share(0), 1, 3600);
        DUE.fraction("share(1)", tiny, tiny.share(1), 1, 60);
        last(tiny, 3);
        lot(tiny, 0, 1, 1, 3600);
        lot(tiny, 1, 2, 1, 60);
        lot(tiny, 2, 0, 3539, 3600);
        DUE.sentence("Terms", "For a number z, 0 to 1 (1 not)");
        GuardDesk z = shares(2, 60, 60);
        last(z, 1);
        lot(z, 0, 3, 1, 1);
    }

    private static void aroundWholeNumbers() {
        DUE.sentence("Terms", "THE TEAM of z are the TARGETS that have a place z, z + 1, z + 2 and so on "
            + "in theirs");
        GuardDesk x = shares(2, 30, 60, 30);
        last(x, 2);
        lot(x, 0, 0b011, 1, 2);
        lot(x, 1, 0b110, 1, 2);
        // From 40 to 80: in the last third and, behind 1, in the first one.
        GuardDesk y = shares(2, 40, 40);
        last(y, 3);
        lot(y, 0, 0b11, 1, 3);
        lot(y, 1, 0b01, 1, 3);
        lot(y, 2, 0b10, 1, 3);
        GuardDesk ten = shares(10, 60, 60, 60, 60, 60, 60, 60, 60, 60, 60);
        last(ten, 1);
        lot(ten, 0, 1023, 1, 1);
        GuardDesk far = shares(10, 59, 60, 60, 60, 60, 60, 60, 60, 60, 60);
        last(far, 2);
        lot(far, 0, 1023, 59, 60);
        lot(far, 1, 1022, 1, 60);
    }

    private static void emptyShares() {
        DUE.sentence("Terms", "SHARES laid one behind the other in the order of TARGETS, each from where the "
            + "one before ends (the first from 0)");
        GuardDesk x = shares(1, 0, 30, 0, 15, 0);
        last(x, 3);
        lot(x, 0, 0b00010, 1, 2);
        lot(x, 1, 0b01000, 1, 4);
        lot(x, 2, 0, 1, 4);
    }

    private static void elevenLots() {
        DUE.sentence("Terms", "The TEAMS change at the rests (less whole numbers) of the SHARES' ends");
        GuardDesk x = shares(2, 7, 7, 7, 7, 7, 7, 7, 7, 7, 7);
        last(x, 11);
        int[] teams = {257, 513, 514, 2, 4, 8, 16, 32, 64, 128, 256};
        int[] sixtieths = {3, 4, 3, 4, 7, 7, 7, 7, 7, 7, 4};
        for (int i = 0; i < 11; i++) {
            Ratio chance = new Ratio(sixtieths[i], 60);
            lot(x, i, teams[i], (int) chance.above(), (int) chance.below());
        }
        DUE.sentence("Terms", "LOTS are numbered from 0 as z grows.");
        DUE.is("team(0)", x.team(0), 257);
        DUE.is("team(10)", x.team(10), 256);
        DUE.is("team(11)", x.team(11), Due.NONE);
        DUE.is("team(-1)", x.team(-1), Due.NONE);
    }
}
