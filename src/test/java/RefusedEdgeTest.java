import java.util.function.Supplier;
import java.util.function.ToIntFunction;

/**
 * The terms' "A call that answers one changes nothing": every finding of every call, on an empty
 * desk, on a furnished and on a full one, leaves nothing that a later call shows but count(6).
 */
public final class RefusedEdgeTest {
    private static final Due DUE = new Due("RefusedEdgeTest");
    private static final int MIN = Integer.MIN_VALUE;
    private static final int MAX = Integer.MAX_VALUE;

    public static void main(String[] args) {
        DUE.sentence("Terms", "A call that answers one changes nothing, but where told");
        targets();
        boundsAndHand();
        withoutTargets();
        withoutPlan();
        roads();
        watches();
        traps();
        sheets();
        handFrom();
        keepAndCount();
        DUE.end();
    }

    private static void on(Supplier<GuardDesk> desk, String call, ToIntFunction<GuardDesk> ask,
            int finding) {
        Picture.refused(DUE, call, desk, ask, finding);
    }

    private static void empty(String call, ToIntFunction<GuardDesk> ask, int finding) {
        on(GuardDesk::new, call + " of an empty desk", ask, finding);
    }

    private static void furnished(String call, ToIntFunction<GuardDesk> ask, int finding) {
        on(Desks::furnished, call + " of a furnished desk", ask, finding);
    }

    private static void full(String call, ToIntFunction<GuardDesk> ask, int finding) {
        on(Desks::full, call + " of a full desk", ask, finding);
    }

    private static void every(String call, ToIntFunction<GuardDesk> ask, int finding) {
        empty(call, ask, finding);
        furnished(call, ask, finding);
        full(call, ask, finding);
    }

    private static void targets() {
        every("target of kind -1", x -> x.target(-1, 0, 0, 0, 1), Due.BAD);
        every("target of kind 4", x -> x.target(4, 0, 0, 0, 1), Due.BAD);
        every("target with saved 61", x -> x.target(0, 61, 0, 0, 1), Due.BAD);
        every("target with lost -61", x -> x.target(0, 0, -61, 0, 1), Due.BAD);
        every("target with gain 61", x -> x.target(0, 0, 0, 61, 1), Due.BAD);
        every("target with gain -61", x -> x.target(0, 0, 0, -61, 1), Due.BAD);
        every("target with lost above saved", x -> x.target(0, 0, 1, 0, 1), Due.BAD);
        every("target with gap 7", x -> x.target(0, 0, 0, 0, 7), Due.BAD);
        full("target beside ten", x -> x.target(0, 0, 0, 0, 1), Due.BAD);
        empty("drop()", GuardDesk::drop, Due.NOTHING);
        every("guards(-1)", x -> x.guards(-1), Due.BAD);
        every("guards(11)", x -> x.guards(11), Due.BAD);
        every("of(-1, 0)", x -> x.of(-1, 0), Due.BAD);
        every("of(10, 0)", x -> x.of(10, 0), Due.BAD);
        every("of(0, 8)", x -> x.of(0, 8), Due.BAD);
    }

    private static void boundsAndHand() {
        every("bounds(-1, 0, 0)", x -> x.bounds(-1, 0, 0), Due.BAD);
        every("bounds(10, 0, 0)", x -> x.bounds(10, 0, 0), Due.BAD);
        every("bounds(3, 0, 61)", x -> x.bounds(3, 0, 61), Due.BAD);
        every("bounds(3, 0, -1)", x -> x.bounds(3, 0, -1), Due.BAD);
        every("bounds(3, -1, 5)", x -> x.bounds(3, -1, 5), Due.BAD);
        every("bounds(3, 6, 5)", x -> x.bounds(3, 6, 5), Due.BAD);
        every("bounds(2, 1, 5)", x -> x.bounds(2, 1, 5), Due.BAD);
        furnished("bounds(0, 0, 5)", x -> x.bounds(0, 0, 5), Due.SORT);
        furnished("bounds(1, 0, 5)", x -> x.bounds(1, 0, 5), Due.SORT);
        full("bounds(9, 0, 5)", x -> x.bounds(9, 0, 5), Due.SORT);
        every("put(-1, 1)", x -> x.put(-1, 1), Due.BAD);
        every("put(10, 1)", x -> x.put(10, 1), Due.BAD);
        every("put(0, -1)", x -> x.put(0, -1), Due.BAD);
        every("put(0, 61)", x -> x.put(0, 61), Due.BAD);
        every("put(1, 1)", x -> x.put(1, 1), Due.BAD);
        furnished("put(3, 9)", x -> x.put(3, 9), Due.BAD);
        furnished("put(3, 51)", x -> x.put(3, 51), Due.BAD);
        every("errs(-1)", x -> x.errs(-1), Due.BAD);
        every("errs(3601)", x -> x.errs(3601), Due.BAD);
        every("share(-1)", x -> x.share(-1), Due.BAD);
        every("share(10)", x -> x.share(10), Due.BAD);
    }

    private static void withoutTargets() {
        empty("best()", GuardDesk::best, Due.NONE);
        empty("worth()", GuardDesk::worth, Due.NONE);
        empty("prize()", GuardDesk::prize, Due.NONE);
        empty("comes()", GuardDesk::comes, Due.NONE);
        empty("handWorth()", GuardDesk::handWorth, Due.NONE);
        empty("errs(0)", x -> x.errs(0), Due.NONE);
        empty("lots()", GuardDesk::lots, Due.NONE);
        empty("team(0)", x -> x.team(0), Due.NONE);
        empty("chance(0)", x -> x.chance(0), Due.NONE);
    }

    /** Furnished, but with more in a LEAST than the guards give. */
    private static GuardDesk unguarded() {
        GuardDesk x = Desks.furnished();
        x.guards(0);
        return x;
    }

    private static void withoutPlan() {
        on(RefusedEdgeTest::unguarded, "best() without a plan", GuardDesk::best, Due.NONE);
        on(RefusedEdgeTest::unguarded, "worth() without a plan", GuardDesk::worth, Due.NONE);
        on(RefusedEdgeTest::unguarded, "prize() without a plan", GuardDesk::prize, Due.NONE);
        on(RefusedEdgeTest::unguarded, "share(0) without a plan", x -> x.share(0), Due.NONE);
        on(RefusedEdgeTest::unguarded, "lots() without a plan", GuardDesk::lots, Due.NONE);
        on(RefusedEdgeTest::unguarded, "team(0) without a plan", x -> x.team(0), Due.NONE);
        on(RefusedEdgeTest::unguarded, "chance(0) without a plan", x -> x.chance(0), Due.NONE);
        every("team(-1)", x -> x.team(-1), Due.NONE);
        every("team(11)", x -> x.team(11), Due.NONE);
        every("chance(-1)", x -> x.chance(-1), Due.NONE);
        every("chance(11)", x -> x.chance(11), Due.NONE);
    }

    private static void roads() {
        every("road(-1, 0, 1)", x -> x.road(-1, 0, 1), Due.BAD);
        every("road(0, 10, 1)", x -> x.road(0, 10, 1), Due.BAD);
        every("road(4, 4, 1)", x -> x.road(4, 4, 1), Due.BAD);
        every("road(0, 1, 0)", x -> x.road(0, 1, 0), Due.BAD);
        every("road(0, 1, 101)", x -> x.road(0, 1, 101), Due.BAD);
        full("road beside sixteen", x -> x.road(0, 1, 1), Due.BAD);
        every("bar(-1, true)", x -> x.bar(-1, true), Due.BAD);
        every("bar(16, true)", x -> x.bar(16, true), Due.BAD);
        every("bar(32, true)", x -> x.bar(32, true), Due.BAD);
        furnished("bar(3, true)", x -> x.bar(3, true), Due.BAD);
        every("shortest(-1, 0)", x -> x.shortest(-1, 0), Due.BAD);
        every("shortest(0, 10)", x -> x.shortest(0, 10), Due.BAD);
        every("shortest(9, 0)", x -> x.shortest(9, 0), Due.NONE);
        every("bars(-1, 0, 1)", x -> x.bars(-1, 0, 1), Due.BAD);
        every("bars(0, 10, 1)", x -> x.bars(0, 10, 1), Due.BAD);
        every("bars(0, 1, -1)", x -> x.bars(0, 1, -1), Due.BAD);
        every("bars(0, 1, 5)", x -> x.bars(0, 1, 5), Due.BAD);
    }

    private static GuardDesk unwatchable() {
        GuardDesk x = Desks.furnished();
        x.every(0, 1);
        return x;
    }

    private static void watches() {
        every("post(0)", x -> x.post(0), Due.BAD);
        every("post(9)", x -> x.post(9), Due.BAD);
        full("post beside five", x -> x.post(8), Due.BAD);
        every("every(-1, 2)", x -> x.every(-1, 2), Due.BAD);
        every("every(5, 2)", x -> x.every(5, 2), Due.BAD);
        every("every(0, 0)", x -> x.every(0, 0), Due.BAD);
        every("every(0, 9)", x -> x.every(0, 9), Due.BAD);
        every("visit(-1)", x -> x.visit(-1), Due.BAD);
        every("visit(1001)", x -> x.visit(1001), Due.BAD);
        empty("visit(0)", x -> x.visit(0), Due.NOTHING);
        on(RefusedEdgeTest::unwatchable, "visit(0) without a watch", x -> x.visit(0), Due.NONE);
    }

    private static void traps() {
        every("haunt(0, 1)", x -> x.haunt(0, 1), Due.BAD);
        every("haunt(1024, 1)", x -> x.haunt(1024, 1), Due.BAD);
        every("haunt(1, 0)", x -> x.haunt(1, 0), Due.BAD);
        every("haunt(1, 1001)", x -> x.haunt(1, 1001), Due.BAD);
        full("haunt beside twenty", x -> x.haunt(1, 1), Due.BAD);
        every("caught(-1)", x -> x.caught(-1), Due.BAD);
        every("caught(1024)", x -> x.caught(1024), Due.BAD);
        every("traps(-1)", x -> x.traps(-1), Due.BAD);
        every("traps(11)", x -> x.traps(11), Due.BAD);
    }

    private static void sheets() {
        every("sheet(-1, 0, 1)", x -> x.sheet(-1, 0, 1), Due.BAD);
        every("sheet(4, 0, 1)", x -> x.sheet(4, 0, 1), Due.BAD);
        every("sheet(0, -1, 1)", x -> x.sheet(0, -1, 1), Due.BAD);
        every("sheet(0, 3, 1)", x -> x.sheet(0, 3, 1), Due.BAD);
        every("sheet(0, 2, 41)", x -> x.sheet(0, 2, 41), Due.BAD);
        every("sheet(0, 2, MAX)", x -> x.sheet(0, 2, MAX), Due.BAD);
        every("sheet(0, 2, -1)", x -> x.sheet(0, 2, -1), Due.SIZE);
        every("sheet(3, 1, MIN)", x -> x.sheet(3, 1, MIN), Due.SIZE);
        every("write(-1, 0, 1)", x -> x.write(-1, 0, 1), Due.BAD);
        every("write(4, 0, 1)", x -> x.write(4, 0, 1), Due.BAD);
        empty("write(0, 0, 1)", x -> x.write(0, 0, 1), Due.NOTHING);
        furnished("write(3, 0, 1)", x -> x.write(3, 0, 1), Due.NOTHING);
        furnished("write(0, 5, 1)", x -> x.write(0, 5, 1), Due.PLACE);
        furnished("write(0, -1, 1)", x -> x.write(0, -1, 1), Due.PLACE);
        full("write(3, 40, 1)", x -> x.write(3, 40, 1), Due.PLACE);
        full("write(3, MIN, 1)", x -> x.write(3, MIN, 1), Due.PLACE);
    }

    private static void handFrom() {
        every("handFrom(-1, 0, 0)", x -> x.handFrom(-1, 0, 0), Due.BAD);
        every("handFrom(4, 0, 0)", x -> x.handFrom(4, 0, 0), Due.BAD);
        every("handFrom(0, -1, 0)", x -> x.handFrom(0, -1, 0), Due.BAD);
        every("handFrom(0, 3, 0)", x -> x.handFrom(0, 3, 0), Due.BAD);
        empty("handFrom(0, 0, 0)", x -> x.handFrom(0, 0, 0), Due.NOTHING);
        furnished("handFrom(3, 0, 0)", x -> x.handFrom(3, 0, 0), Due.NOTHING);
        furnished("handFrom(0, 1, 0)", x -> x.handFrom(0, 1, 0), Due.SORT);
        furnished("handFrom(0, 0, -1)", x -> x.handFrom(0, 0, -1), Due.PLACE);
        furnished("handFrom(0, 0, 2)", x -> x.handFrom(0, 0, 2), Due.PLACE);
        full("handFrom(0, 2, 0)", x -> x.handFrom(0, 2, 0), Due.SORT);
        full("handFrom(0, 0, 31)", x -> x.handFrom(0, 0, 31), Due.PLACE);
        full("handFrom(0, 0, MAX)", x -> x.handFrom(0, 0, MAX), Due.PLACE);
    }

    private static void keepAndCount() {
        empty("back()", GuardDesk::back, Due.NOTHING);
        every("count(-1)", x -> x.count(-1), Due.BAD);
        every("count(7)", x -> x.count(7), Due.BAD);
    }
}
