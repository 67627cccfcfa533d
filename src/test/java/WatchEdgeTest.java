/** The edges of promises 24 to 26, and of what the terms say of posts and the watch. */
public final class WatchEdgeTest {
    private static final Due DUE = new Due("WatchEdgeTest");

    public static void main(String[] args) {
        post();
        every();
        ticks();
        noPosts();
        noWatch();
        windows();
        lesserPost();
        changes();
        DUE.end();
    }

    private static GuardDesk posts(int... every) {
        GuardDesk x = new GuardDesk();
        for (int one : every) {
            x.post(one);
        }
        return x;
    }

    /** The watch goes round and round like this, up to the last tick. */
    private static void round(String what, GuardDesk x, int... want) {
        for (int tick = 0; tick < 3 * want.length; tick++) {
            DUE.is(what + ": visit(" + tick + ")", x.visit(tick), want[tick % want.length]);
        }
        for (int tick = 990; tick <= 1000; tick++) {
            DUE.is(what + ": visit(" + tick + ")", x.visit(tick), want[tick % want.length]);
        }
    }

    private static void none(String what, GuardDesk x) {
        DUE.is(what + ": visit(0)", x.visit(0), Due.NONE);
        DUE.is(what + ": visit(1)", x.visit(1), Due.NONE);
        DUE.is(what + ": visit(1000)", x.visit(1000), Due.NONE);
    }

    private static void post() {
        DUE.sentence("Promise 24", "every is not 1 .. 8");
        DUE.range("post(every)", 1, 8, every -> new GuardDesk().post(every), every -> 0);
        DUE.sentence("Promise 24", "or there are 5");
        GuardDesk x = new GuardDesk();
        for (int p = 0; p < 5; p++) {
            DUE.is("post as number " + p, x.post(5), p);
            DUE.is("count(4)", x.count(4), p + 1);
        }
        DUE.is("a sixth", x.post(8), Due.BAD);
        DUE.is("count(4)", x.count(4), 5);
        DUE.sentence("Terms", "POSTS are numbered from 0, 5 at most, each with EVERY (1 to 8)");
        round("five of 5", x, 0, 1, 2, 3, 4);
    }

    private static void every() {
        DUE.sentence("Promise 25", "no such POST");
        for (int n = 0; n <= 5; n++) {
            GuardDesk x = new GuardDesk();
            for (int p = 0; p < n; p++) {
                x.post(8 - p);
            }
            DUE.outside("every(p, 1) of " + n, 0, n - 1, p -> x.every(p, 1), Due.BAD);
            for (int p = 0; p < n; p++) {
                DUE.is("every(" + p + ", 1) of " + n, x.every(p, 1), 8 - p);
            }
        }
        DUE.sentence("Promise 25", "or every is not 1 .. 8");
        DUE.range("every(4, every)", 1, 8, every -> posts(1, 2, 3, 4, 5).every(4, every), every -> 5);
        DUE.sentence("Promise 25", "EVERY of a POST becomes so: what it was.");
        GuardDesk x = posts(1);
        for (int every = 2; every <= 8; every++) {
            DUE.is("every(0, " + every + ")", x.every(0, every), every - 1);
        }
        DUE.is("every(0, 9)", x.every(0, 9), Due.BAD);
        DUE.is("every(0, 8): as it was", x.every(0, 8), 8);
    }

    private static void ticks() {
        DUE.sentence("Terms", "at each TICK (0, 1, 2 ..) one POST is visited");
        GuardDesk x = posts(8, 8, 8, 8, 8);
        for (int tick = 0; tick <= 500; tick++) {
            int post = x.visit(tick);
            DUE.holds("visit(" + tick + ") is one of five", post >= 0 && post <= 4);
        }
        DUE.sentence("Promise 26", "tick is not 0 .. 1000");
        DUE.range("visit(tick)", 0, 1000, tick -> posts(1).visit(tick), tick -> 0);
        DUE.outside("visit(tick) without posts", 0, 1000, tick -> new GuardDesk().visit(tick), Due.BAD);
        DUE.outside("visit(tick) without a watch", 0, 1000, tick -> posts(1, 1).visit(tick), Due.BAD);
    }

    private static void noPosts() {
        DUE.sentence("Promise 26", "there are no POSTS");
        GuardDesk x = new GuardDesk();
        DUE.is("visit(0)", x.visit(0), Due.NOTHING);
        DUE.is("visit(1000)", x.visit(1000), Due.NOTHING);
        DUE.is("count(6)", x.count(6), 2);
        x.keep();
        x.post(1);
        DUE.is("visit(0) of one post", x.visit(0), 0);
        x.back();
        DUE.is("visit(0) of the post taken back", x.visit(0), Due.NOTHING);
    }

    private static void noWatch() {
        DUE.sentence("Promise 26", "there is no WATCH");
        none("two of 1", posts(1, 1));
        none("1 and 8", posts(1, 8));
        none("8 and 1", posts(8, 1));
        none("2, 2 and 8", posts(2, 2, 8));
        none("2, 3 and 8", posts(2, 3, 8));
        none("3, 3 and 2", posts(3, 3, 2));
        none("five, one of 4", posts(5, 5, 5, 5, 4));
        none("five of 4", posts(4, 4, 4, 4, 4));
        GuardDesk x = posts(1, 8);
        x.visit(0);
        DUE.is("count(6): NONE is not the host's", x.count(6), 0);
    }

    private static void windows() {
        DUE.sentence("Terms", "of each so many TICKS one behind the other it must be visited in one at "
            + "least");
        round("1", posts(1), 0);
        round("8", posts(8), 0);
        round("two of 2", posts(2, 2), 0, 1);
        round("two of 8", posts(8, 8), 0, 0, 0, 0, 0, 0, 0, 1);
        round("2 and 8", posts(2, 8), 0, 0, 0, 0, 0, 0, 0, 1);
        round("8 and 2", posts(8, 2), 0, 1);
        round("three of 3", posts(3, 3, 3), 0, 1, 2);
        round("four of 4", posts(4, 4, 4, 4), 0, 1, 2, 3);
        round("2, 4 and 4", posts(2, 4, 4), 0, 1, 0, 2);
        int[] every = {4, 5, 6, 7, 8};
        GuardDesk x = posts(every);
        int[] latest = {-1, -1, -1, -1, -1};
        boolean isKept = true;
        for (int tick = 0; tick <= 500; tick++) {
            latest[Math.max(0, x.visit(tick))] = tick;
            for (int p = 0; p < 5; p++) {
                isKept &= tick - latest[p] < every[p];
            }
        }
        DUE.holds("4 to 8: each is visited in time", isKept);
    }

    private static void lesserPost() {
        DUE.sentence("Terms", "the one with the lesser POST at the first TICK at which two differ");
        round("two of 3: 0 twice ahead of 1", posts(3, 3), 0, 0, 1);
        round("3 and 2: 1 as late as it may", posts(3, 2), 0, 1);
        round("2 and 3", posts(2, 3), 0, 0, 1);
        round("8 and 3", posts(8, 3), 0, 0, 1);
        round("4, 4 and 2: 0 and 1 ahead would leave no watch", posts(4, 4, 2), 0, 2, 1, 2);
    }

    private static void changes() {
        DUE.sentence("Promise 26", "The POST that THE WATCH visits at a TICK.");
        GuardDesk x = posts(2, 2);
        round("two of 2", x, 0, 1);
        x.every(1, 8);
        round("2 and 8", x, 0, 0, 0, 0, 0, 0, 0, 1);
        x.every(0, 1);
        none("1 and 8", x);
        x.every(0, 8);
        x.every(1, 2);
        round("8 and 2", x, 0, 1);
        GuardDesk y = posts(3, 3, 2);
        none("3, 3 and 2", y);
        y.every(2, 3);
        round("three of 3, where there was no watch", y, 0, 1, 2);
        y.every(0, 1);
        none("1, 3 and 3", y);
        y.every(0, 2);
        y.every(1, 4);
        y.every(2, 4);
        round("2, 4 and 4, where there was no watch", y, 0, 1, 0, 2);
    }
}
