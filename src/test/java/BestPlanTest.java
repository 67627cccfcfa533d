import java.util.ArrayList;
import java.util.List;
import java.util.Random;

/** Promises 7 to 11: best, worth, prize, share, below. */
public final class BestPlanTest {
    private static final Due DUE = new Due("BestPlanTest");

    public static void main(String[] args) {
        noPlan();
        one();
        ties();
        heldByMost();
        pushedByLeast();
        belowStays();
        Random random = new Random(7);
        for (int i = 0; i < 3000; i++) {
            againstSolver(new Setting(random, 1 + random.nextInt(5), i % 3 == 0 ? 60 : 5, 1));
        }
        for (int i = 0; i < 60; i++) {
            againstSolver(new Setting(random, 10, i % 2 == 0 ? 60 : 8, 1));
        }
        for (int i = 0; i < 400; i++) {
            againstGrid(new Setting(random, 1 + random.nextInt(3), 1 + random.nextInt(4), 10));
        }
        DUE.end();
    }

    private static void noPlan() {
        GuardDesk x = new GuardDesk();
        DUE.is("best() without targets", x.best(), Due.NONE);
        DUE.is("worth() without targets", x.worth(), Due.NONE);
        DUE.is("prize() without targets", x.prize(), Due.NONE);
        DUE.is("share(0) without targets", x.share(0), Due.BAD);
        x.target(3, 1, 0, 1, 1);
        x.target(3, 1, 0, 1, 1);
        x.bounds(0, 30, 60);
        x.bounds(1, 31, 60);
        DUE.is("best() of 61", x.best(), Due.NONE);
        DUE.is("worth() of 61", x.worth(), Due.NONE);
        DUE.is("prize() of 61", x.prize(), Due.NONE);
        DUE.is("share(1) of 61", x.share(1), Due.NONE);
        DUE.is("share(2) of 61", x.share(2), Due.BAD);
        DUE.is("share(-1) of 61", x.share(-1), Due.BAD);
        for (int far : Due.FAR) {
            DUE.is("share(far)", x.share(far), Due.BAD);
        }
        x.bounds(1, 30, 60);
        DUE.is("best() of 60", x.best(), 0);
        DUE.fraction("share(0) of 60", x, x.share(0), 1, 2);
        DUE.is("count(6): none are the host's", x.count(6), 0);
    }

    private static void one() {
        GuardDesk x = new GuardDesk();
        x.target(0, 60, -60, 60, 60);
        DUE.is("best()", x.best(), 0);
        DUE.fraction("share(0)", x, x.share(0), 1, 1);
        DUE.fraction("worth()", x, x.worth(), 60, 1);
        DUE.fraction("prize()", x, x.prize(), 0, 1);
        x.guards(0);
        DUE.fraction("share(0) unguarded", x, x.share(0), 0, 1);
        DUE.fraction("worth() unguarded", x, x.worth(), -60, 1);
        DUE.fraction("prize() unguarded", x, x.prize(), 60, 1);
        x.guards(10);
        DUE.fraction("share(0) is 1 at most", x, x.share(0), 1, 1);
        DUE.is("wrong share", x.share(1), Due.BAD);
    }

    private static void ties() {
        GuardDesk x = new GuardDesk();
        // All alike: the thief comes to the least; the share is even.
        x.target(0, 4, -4, 6, 6);
        x.target(0, 4, -4, 6, 6);
        x.target(0, 4, -4, 6, 6);
        DUE.is("best() of three alike", x.best(), 0);
        for (int t = 0; t < 3; t++) {
            DUE.fraction("share(" + t + ") of three alike", x, x.share(t), 1, 3);
        }
        DUE.fraction("worth() of three alike", x, x.worth(), -4, 3);
        DUE.fraction("prize() of three alike", x, x.prize(), 4, 1);
        // Worth the same to the thief, the later one more to the keeper.
        GuardDesk y = new GuardDesk();
        y.target(0, 0, -9, 6, 6);
        y.target(0, 0, -2, 6, 6);
        y.target(0, 0, -2, 6, 6);
        DUE.is("best() of a tie", y.best(), 1);
        DUE.fraction("worth() of a tie", y, y.worth(), -4, 3);
        // Saved and lost alike: the share makes no worth, yet is the greatest.
        GuardDesk z = new GuardDesk();
        z.target(0, 5, 5, 10, 2);
        z.target(0, 0, -1, 2, 1);
        DUE.is("best() of a target not to be lost", z.best(), 0);
        DUE.fraction("its share", z, z.share(0), 1, 1);
        DUE.fraction("the other has the least", z, z.share(1), 0, 1);
        DUE.fraction("its prize", z, z.prize(), 8, 1);
    }

    private static void heldByMost() {
        GuardDesk x = new GuardDesk();
        x.target(0, 3, -3, 10, 10);
        x.target(2, 2, -5, 9, 6);
        x.bounds(1, 0, 20);
        x.guards(5);
        // Target 1 stays worth 7 to the thief, so more on target 0 would only send them there.
        DUE.is("best()", x.best(), 0);
        DUE.fraction("share(0)", x, x.share(0), 3, 10);
        DUE.fraction("share(1)", x, x.share(1), 1, 3);
        DUE.fraction("worth()", x, x.worth(), -6, 5);
        DUE.fraction("prize()", x, x.prize(), 7, 1);
        x.target(1, -60, -60, 8, 60);
        DUE.fraction("share(1) beside an open one", x, x.share(1), 1, 6);
        DUE.fraction("prize() beside an open one", x, x.prize(), 8, 1);
        DUE.fraction("share(2)", x, x.share(2), 0, 1);
    }

    private static void pushedByLeast() {
        GuardDesk x = new GuardDesk();
        x.target(3, 0, -1, 10, 20);
        x.target(0, 2, -8, 6, 4);
        x.bounds(0, 45, 60);
        // The least of target 0 leaves a quarter of a guard for target 1.
        DUE.is("best()", x.best(), 1);
        DUE.fraction("share(0)", x, x.share(0), 3, 4);
        DUE.fraction("share(1)", x, x.share(1), 1, 4);
        DUE.fraction("worth()", x, x.worth(), -11, 2);
        DUE.fraction("prize()", x, x.prize(), 5, 1);
    }

    private static void belowStays() {
        GuardDesk x = new GuardDesk();
        DUE.is("below() at first", x.below(), 1);
        for (int t = 0; t < 3; t++) {
            x.target(0, 4, -4, 6, 6);
        }
        DUE.is("share(0)", x.share(0), 1);
        DUE.is("share(9)", x.share(9), Due.BAD);
        DUE.is("best()", x.best(), 0);
        DUE.is("errs(-1)", x.errs(-1), Due.BAD);
        DUE.is("chance(99)", x.chance(99), Due.NONE);
        x.guards(0);
        x.bounds(0, 1, 1);
        x.drop();
        x.keep();
        x.back();
        DUE.is("below() is of the latest fraction answered", x.below(), 3);
        DUE.is("below() again", x.below(), 3);
        DUE.is("share(0) of no guards", x.share(0), 0);
        DUE.is("below() of 0", x.below(), 1);
    }

    /** The greatest share of k for which the thief can come to it, by trying every level that can be one. */
    private static Ratio greatestShare(Setting s, int k) {
        List<Ratio> levels = new ArrayList<>();
        for (int t = 0; t < s.n; t++) {
            levels.add(s.thief(t, new Ratio(s.least[t], 60)));
            levels.add(s.thief(t, new Ratio(s.most[t], 60)));
        }
        for (int set = 1; set < 1 << s.n; set++) {
            Ratio sum = Ratio.of(-s.guards);
            Ratio slopes = Ratio.of(0);
            for (int t = 0; t < s.n; t++) {
                if ((set >> t & 1) == 0) {
                    sum = sum.plus(new Ratio(s.least[t], 60));
                } else {
                    sum = sum.plus(new Ratio(s.gain[t], s.gap[t]));
                    slopes = slopes.plus(new Ratio(1, s.gap[t]));
                }
            }
            levels.add(sum.by(slopes));
        }
        Ratio found = null;
        for (Ratio level : levels) {
            Ratio[] shares = sharesAt(s, k, level);
            if (s.isPlan(shares) && (found == null || shares[k].compare(found) > 0)) {
                found = shares[k];
            }
        }
        return found;
    }

    private static Ratio[] sharesAt(Setting s, int k, Ratio level) {
        Ratio[] shares = new Ratio[s.n];
        for (int t = 0; t < s.n; t++) {
            Ratio held = Ratio.of(s.gain[t]).minus(level).by(Ratio.of(s.gap[t]));
            shares[t] = t == k ? held : held.max(new Ratio(s.least[t], 60));
        }
        return shares;
    }

    private static void againstSolver(Setting s) {
        GuardDesk x = s.desk;
        if (!s.hasPlan()) {
            DUE.is("best() of " + s.text(), x.best(), Due.NONE);
            return;
        }
        int goal = -1;
        Ratio worth = null;
        Ratio share = null;
        for (int k = 0; k < s.n; k++) {
            Ratio can = greatestShare(s, k);
            if (can != null && (goal < 0 || s.keeper(k, can).compare(worth) > 0)) {
                goal = k;
                share = can;
                worth = s.keeper(k, can);
            }
        }
        Ratio prize = s.thief(goal, share);
        DUE.is("best() of " + s.text(), x.best(), goal);
        DUE.fraction("worth() of " + s.text(), x, x.worth(), worth.above(), worth.below());
        DUE.fraction("prize() of " + s.text(), x, x.prize(), prize.above(), prize.below());
        Ratio[] shares = sharesAt(s, goal, prize);
        for (int t = 0; t < s.n; t++) {
            String call = "share(" + t + ") of " + s.text();
            DUE.fraction(call, x, x.share(t), shares[t].above(), shares[t].below());
        }
    }

    /** No plan in sixths may be better by the definition's own words. */
    private static void againstGrid(Setting s) {
        if (!s.hasPlan()) {
            DUE.is("best() of " + s.text(), s.desk.best(), Due.NONE);
            return;
        }
        Ratio[] told = s.told();
        int goal = s.desk.best();
        DUE.holds("told shares are a plan of " + s.text(), s.isPlan(told));
        DUE.is("the thief comes to best() of " + s.text(), s.goal(told), goal);
        int all = 1;
        for (int t = 0; t < s.n; t++) {
            all *= 7;
        }
        for (int code = 0; code < all; code++) {
            Ratio[] shares = new Ratio[s.n];
            int rest = code;
            for (int t = 0; t < s.n; t++) {
                shares[t] = new Ratio(rest % 7, 6);
                rest /= 7;
            }
            if (s.isPlan(shares)) {
                DUE.holds("no plan is better for " + s.text(), !isBetter(s, shares, told, goal));
            }
        }
    }

    private static boolean isBetter(Setting s, Ratio[] shares, Ratio[] told, int goal) {
        int other = s.goal(shares);
        int more = s.keeper(other, shares[other]).compare(s.keeper(goal, told[goal]));
        if (more != 0 || other != goal) {
            return more > 0 || more == 0 && other < goal;
        }
        int greater = shares[goal].compare(told[goal]);
        if (greater != 0) {
            return greater > 0;
        }
        for (int t = 0; t < s.n; t++) {
            if (shares[t].compare(told[t]) < 0) {
                return true;
            }
        }
        return false;
    }
}
