import java.util.ArrayDeque;

/** Promises 24 to 26: post, every, visit. */
public final class WatchTest {
    private static final Due DUE = new Due("WatchTest");
    private static final int TOLD = 400;

    public static void main(String[] args) {
        post();
        every();
        visit();
        changes();
        for (int n = 1; n <= 5; n++) {
            allPosts(n);
        }
        DUE.end();
    }

    private static void post() {
        GuardDesk x = new GuardDesk();
        DUE.is("post(0)", x.post(0), Due.BAD);
        DUE.is("post(9)", x.post(9), Due.BAD);
        for (int far : Due.FAR) {
            DUE.is("post(far)", x.post(far), Due.BAD);
        }
        DUE.is("count(4)", x.count(4), 0);
        for (int p = 0; p < 5; p++) {
            DUE.is("post " + p, x.post(p % 2 == 0 ? 1 : 8), p);
            DUE.is("count(4)", x.count(4), p + 1);
        }
        DUE.is("post 5", x.post(4), Due.BAD);
        DUE.is("count(4)", x.count(4), 5);
        DUE.is("every(0, 2)", x.every(0, 2), 1);
        DUE.is("every(1, 2)", x.every(1, 2), 8);
    }

    private static void every() {
        GuardDesk x = new GuardDesk();
        x.post(3);
        DUE.is("every(1, 3)", x.every(1, 3), Due.BAD);
        DUE.is("every(-1, 3)", x.every(-1, 3), Due.BAD);
        DUE.is("every(0, 0)", x.every(0, 0), Due.BAD);
        DUE.is("every(0, 9)", x.every(0, 9), Due.BAD);
        for (int far : Due.FAR) {
            DUE.is("every(far, 3)", x.every(far, 3), Due.BAD);
            DUE.is("every(0, far)", x.every(0, far), Due.BAD);
        }
        DUE.is("every(0, 8)", x.every(0, 8), 3);
        DUE.is("every(0, 1)", x.every(0, 1), 8);
        DUE.is("every(0, 5)", x.every(0, 5), 1);
    }

    private static void visit() {
        GuardDesk x = new GuardDesk();
        DUE.is("visit(-1) without posts", x.visit(-1), Due.BAD);
        DUE.is("visit(1001) without posts", x.visit(1001), Due.BAD);
        for (int far : Due.FAR) {
            DUE.is("visit(far)", x.visit(far), Due.BAD);
        }
        DUE.is("visit(1000) without posts", x.visit(1000), Due.NOTHING);
        DUE.is("count(6)", x.count(6), 1);
        x.post(1);
        DUE.is("visit(0) of one post", x.visit(0), 0);
        DUE.is("visit(1000) of one post", x.visit(1000), 0);
        x.post(8);
        DUE.is("visit(0) beside a post that may never wait", x.visit(0), Due.NONE);
        DUE.is("visit(1001)", x.visit(1001), Due.BAD);
        DUE.is("count(6)", x.count(6), 1);
    }

    private static void changes() {
        GuardDesk x = new GuardDesk();
        x.post(2);
        x.post(2);
        row(x, 0, 1, 0, 1, 0, 1);
        x.every(0, 1);
        row(x, Due.NONE, Due.NONE);
        x.every(0, 2);
        row(x, 0, 1, 0, 1, 0, 1);
        x.every(1, 3);
        row(x, 0, 0, 1, 0, 0, 1);
        x.keep();
        x.every(0, 3);
        row(x, 0, 0, 1, 0, 0, 1);
        x.every(1, 8);
        row(x, 0, 0, 0, 0, 0, 0, 0, 1, 0, 0, 0, 0);
        x.every(0, 8);
        x.every(1, 1);
        row(x, Due.NONE, Due.NONE);
        x.back();
        row(x, 0, 0, 1, 0, 0, 1);
        x.post(8);
        row(x, Due.NONE, Due.NONE);
    }

    private static void row(GuardDesk x, int... want) {
        for (int tick = 0; tick < want.length; tick++) {
            DUE.is("visit(" + tick + ")", x.visit(tick), want[tick]);
        }
    }

    /** Every choice of n posts, so that the bounds inside the desk are seen to be enough. */
    private static void allPosts(int n) {
        int all = 1 << 3 * n;
        int[] every = new int[n];
        for (int code = 0; code < all; code++) {
            GuardDesk x = new GuardDesk();
            StringBuilder told = new StringBuilder("posts");
            int asked = 0;
            for (int p = 0; p < n; p++) {
                every[p] = (code >> 3 * p & 7) + 1;
                asked += 840 / every[p];
                told.append(' ').append(every[p]);
                x.post(every[p]);
            }
            // More visits asked than ticks: no watch.
            int[] want = asked > 840 ? null : watch(every);
            for (int tick = 0; tick < (want == null ? 1 : TOLD); tick++) {
                int due = want == null ? Due.NONE : want[tick];
                DUE.is(told + ": visit(" + tick + ")", x.visit(tick), due);
            }
            for (int tick = 991; tick <= 1000; tick++) {
                DUE.is(told + ": visit(" + tick + ")", x.visit(tick), want == null ? Due.NONE : want[tick]);
            }
        }
    }

    /** Strikes out all states without an end, from the dead ones back; the desk walks ahead. */
    static int[] watch(int[] every) {
        int n = every.length;
        int[] width = new int[n + 1];
        width[0] = 1;
        for (int p = 0; p < n; p++) {
            width[p + 1] = width[p] * every[p];
        }
        byte[] ways = new byte[width[n]];
        ArrayDeque<Integer> dead = new ArrayDeque<>();
        for (int state = 0; state < width[n]; state++) {
            for (int p = 0; p < n; p++) {
                ways[state] += after(every, width, state, p) >= 0 ? 1 : 0;
            }
            if (ways[state] == 0) {
                dead.add(state);
            }
        }
        while (!dead.isEmpty()) {
            strikeBefore(every, width, dead.remove(), ways, dead);
        }
        int state = width[n] - 1;
        if (ways[state] == 0) {
            return null;
        }
        int[] visits = new int[1001];
        for (int tick = 0; tick <= 1000; tick++) {
            int p = 0;
            int next = after(every, width, state, p);
            while (next < 0 || ways[next] == 0) {
                p++;
                next = after(every, width, state, p);
            }
            visits[tick] = p;
            state = next;
        }
        return visits;
    }

    private static int after(int[] every, int[] width, int state, int visited) {
        int next = 0;
        for (int p = 0; p < every.length; p++) {
            int left = state / width[p] % every[p];
            if (p != visited && left == 0) {
                return -1;
            }
            next += (p == visited ? every[p] - 1 : left - 1) * width[p];
        }
        return next;
    }

    private static void strikeBefore(int[] every, int[] width, int state, byte[] ways,
            ArrayDeque<Integer> dead) {
        for (int visited = 0; visited < every.length; visited++) {
            if (state / width[visited] % every[visited] != every[visited] - 1) {
                continue;
            }
            int base = 0;
            boolean can = true;
            for (int p = 0; p < every.length; p++) {
                int left = state / width[p] % every[p] + 1;
                can &= p == visited || left < every[p];
                base += p == visited ? 0 : left * width[p];
            }
            for (int left = 0; can && left < every[visited]; left++) {
                int before = base + left * width[visited];
                ways[before]--;
                if (ways[before] == 0) {
                    dead.add(before);
                }
            }
        }
    }
}
