import java.util.Random;

/** Promises 12 to 16: put, spare, comes, handWorth, errs. */
public final class HandTest {
    private static final Due DUE = new Due("HandTest");

    public static void main(String[] args) {
        put();
        spare();
        comes();
        errs();
        Random random = new Random(11);
        for (int i = 0; i < 2000; i++) {
            againstDefinitions(new Setting(random, random.nextInt(11), i % 2 == 0 ? 60 : 3, 1), random);
        }
        DUE.end();
    }

    private static void put() {
        GuardDesk x = new GuardDesk();
        x.target(0, 1, 0, 1, 1);
        x.target(1, 1, 0, 1, 1);
        x.target(3, 1, 0, 1, 1);
        DUE.is("put(0, 60)", x.put(0, 60), 0);
        DUE.is("put(0, 61)", x.put(0, 61), Due.BAD);
        DUE.is("put(0, -1)", x.put(0, -1), Due.BAD);
        DUE.is("put(0, 7)", x.put(0, 7), 60);
        DUE.is("of(0, 7)", x.of(0, 7), 7);
        DUE.is("put(1, 0)", x.put(1, 0), 0);
        DUE.is("put(1, 1)", x.put(1, 1), Due.BAD);
        x.bounds(2, 20, 30);
        DUE.is("put(2, 19)", x.put(2, 19), Due.BAD);
        DUE.is("put(2, 31)", x.put(2, 31), Due.BAD);
        DUE.is("put(2, 20): the hand was left by bounds", x.put(2, 20), 0);
        DUE.is("put(2, 30)", x.put(2, 30), 20);
        DUE.is("put(3, 0)", x.put(3, 0), Due.BAD);
        DUE.is("put(-1, 0)", x.put(-1, 0), Due.BAD);
        for (int far : Due.FAR) {
            DUE.is("put(far, 0)", x.put(far, 0), Due.BAD);
            DUE.is("put(0, far)", x.put(0, far), Due.BAD);
        }
        DUE.is("of(2, 7)", x.of(2, 7), 30);
    }

    private static void spare() {
        GuardDesk x = new GuardDesk();
        x.guards(10);
        DUE.is("spare() without targets", x.spare(), -600);
        x.target(0, 1, 0, 1, 1);
        x.target(0, 1, 0, 1, 1);
        x.put(0, 60);
        x.put(1, 1);
        DUE.is("spare() of ten guards", x.spare(), 61 - 600);
        x.guards(1);
        DUE.is("spare() of one guard", x.spare(), 1);
        x.drop();
        DUE.is("spare() of one target less", x.spare(), 0);
    }

    private static void comes() {
        GuardDesk x = new GuardDesk();
        DUE.is("comes() without targets", x.comes(), Due.NONE);
        DUE.is("handWorth() without targets", x.handWorth(), Due.NONE);
        x.target(0, 4, -3, 6, 12);
        x.target(0, 5, -3, 6, 6);
        x.target(0, 9, -2, 2, 1);
        x.put(0, 10);
        x.put(1, 20);
        // Both are worth 4 to the thief; -3 + 7/6 is less than -3 + 8/3 for the keeper.
        DUE.is("comes()", x.comes(), 1);
        DUE.fraction("handWorth()", x, x.handWorth(), -1, 3);
        x.put(0, 9);
        DUE.is("comes() where there is more", x.comes(), 0);
        DUE.fraction("handWorth() there", x, x.handWorth(), -39, 20);
        GuardDesk y = new GuardDesk();
        y.target(0, 1, 0, 5, 5);
        y.target(0, 1, 0, 5, 5);
        DUE.is("comes() of two alike", y.comes(), 0);
        DUE.fraction("handWorth() of 0", y, y.handWorth(), 0, 1);
        y.put(0, 60);
        y.put(1, 60);
        y.guards(0);
        DUE.is("comes() by a hand above the guards", y.comes(), 0);
        DUE.fraction("handWorth() by it", y, y.handWorth(), 1, 1);
    }

    private static void errs() {
        GuardDesk x = new GuardDesk();
        DUE.is("errs(-1) without targets", x.errs(-1), Due.BAD);
        DUE.is("errs(3601) without targets", x.errs(3601), Due.BAD);
        DUE.is("errs(3600) without targets", x.errs(3600), Due.NONE);
        x.target(0, 0, 0, 10, 1);
        x.target(0, 0, -7, 10, 6);
        x.target(0, 0, -60, -50, 1);
        x.put(1, 1);
        // Target 1 is worth 6 sixtieths less to the thief, target 2 60 whole ones.
        DUE.fraction("errs(5)", x, x.errs(5), 0, 1);
        DUE.fraction("errs(6)", x, x.errs(6), -413, 60);
        DUE.fraction("errs(3599)", x, x.errs(3599), -413, 60);
        DUE.fraction("errs(3600)", x, x.errs(3600), -60, 1);
        DUE.is("errs(3601)", x.errs(3601), Due.BAD);
        for (int far : Due.FAR) {
            DUE.is("errs(far)", x.errs(far), Due.BAD);
        }
        GuardDesk y = new GuardDesk();
        y.target(0, 3, 3, 1, 1);
        y.target(0, 2, 2, 1, 1);
        DUE.is("comes() of a tie", y.comes(), 0);
        DUE.fraction("errs(0) of a tie is the least", y, y.errs(0), 2, 1);
    }

    private static void againstDefinitions(Setting s, Random random) {
        Ratio[] hand = new Ratio[s.n];
        int sum = 0;
        for (int t = 0; t < s.n; t++) {
            int v = s.least[t] + random.nextInt(s.most[t] - s.least[t] + 1);
            DUE.is("put", s.desk.put(t, v), 0);
            hand[t] = new Ratio(v, 60);
            sum += v;
        }
        DUE.is("spare() of " + s.text(), s.desk.spare(), sum - 60 * s.guards);
        if (s.n == 0) {
            DUE.is("comes() of nothing", s.desk.comes(), Due.NONE);
            return;
        }
        int goal = s.goal(hand);
        Ratio worth = s.keeper(goal, hand[goal]);
        DUE.is("comes() of " + s.text(), s.desk.comes(), goal);
        DUE.fraction("handWorth()", s.desk, s.desk.handWorth(), worth.above(), worth.below());
        int e = random.nextInt(3601);
        Ratio enough = s.thief(goal, hand[goal]).minus(new Ratio(e, 60));
        Ratio worst = worth;
        for (int t = 0; t < s.n; t++) {
            Ratio keeper = s.keeper(t, hand[t]);
            if (s.thief(t, hand[t]).compare(enough) >= 0 && keeper.compare(worst) < 0) {
                worst = keeper;
            }
        }
        DUE.fraction("errs(" + e + ")", s.desk, s.desk.errs(e), worst.above(), worst.below());
    }
}
