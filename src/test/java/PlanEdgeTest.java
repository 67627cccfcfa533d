/** The edges of promises 7 to 11, and of what the terms say of plans. */
public final class PlanEdgeTest {
    private static final Due DUE = new Due("PlanEdgeTest");

    public static void main(String[] args) {
        noTargets();
        leastsAboveGuards();
        leastToMost();
        notAboveGuards();
        eachGap();
        worthMostToThief();
        worthMostToKeeper();
        greatestShare();
        leastShareOfOthers();
        noSuchTarget();
        below();
        tenTargets();
        DUE.end();
    }

    private static void noPlan(String when, GuardDesk x) {
        DUE.is("best() " + when, x.best(), Due.NONE);
        DUE.is("worth() " + when, x.worth(), Due.NONE);
        DUE.is("prize() " + when, x.prize(), Due.NONE);
        DUE.is("lots() " + when, x.lots(), Due.NONE);
        DUE.is("share(0) " + when, x.share(0), x.count(0) == 0 ? Due.BAD : Due.NONE);
    }

    private static void noTargets() {
        DUE.sentence("Terms", "there is none without TARGETS");
        for (int n = 0; n <= 10; n++) {
            GuardDesk x = new GuardDesk();
            x.guards(n);
            noPlan("without targets and with " + n + " guards", x);
        }
        GuardDesk x = new GuardDesk();
        x.target(0, 0, 0, 0, 1);
        DUE.is("best() of one target", x.best(), 0);
        x.drop();
        noPlan("of the last dropped", x);
    }

    private static void leastsAboveGuards() {
        DUE.sentence("Terms", "or if all LEASTS are above GUARDS together");
        for (int guards = 0; guards <= 10; guards++) {
            GuardDesk x = new GuardDesk();
            x.guards(guards);
            for (int t = 0; t < guards; t++) {
                x.target(3, 0, 0, 0, 1);
                x.bounds(t, 60, 60);
            }
            if (guards < 10) {
                x.target(3, 0, 0, 0, 1);
                DUE.is("best() of leasts that are just the guards", x.best(), guards);
                x.bounds(guards, 1, 60);
                noPlan("of a sixtieth more than " + guards, x);
            } else {
                DUE.is("best() of ten leasts of 60", x.best(), 0);
                x.guards(9);
                noPlan("of ten leasts of 60 with nine guards", x);
            }
        }
        DUE.sentence("Promise 7", "NONE.");
        DUE.is("best()", new GuardDesk().best(), Due.NONE);
        DUE.sentence("Promise 8", "NONE.");
        DUE.is("worth()", new GuardDesk().worth(), Due.NONE);
        DUE.sentence("Promise 9", "NONE.");
        DUE.is("prize()", new GuardDesk().prize(), Due.NONE);
    }

    private static void leastToMost() {
        DUE.sentence("Terms", "a fraction from its LEAST to its MOST (by 60)");
        for (int v = 0; v <= 60; v++) {
            Ratio want = new Ratio(v, 60);
            GuardDesk x = new GuardDesk();
            x.guards(10);
            x.target(2, 0, -1, 60, 60);
            x.bounds(0, 0, v);
            DUE.fraction("share with most " + v, x, x.share(0), want.above(), want.below());
            GuardDesk y = new GuardDesk();
            y.target(3, 0, -1, -60, 60);
            y.target(1, 0, -1, 60, 60);
            y.bounds(0, v, 60);
            DUE.fraction("share with least " + v, y, y.share(0), want.above(), want.below());
        }
    }

    private static void notAboveGuards() {
        DUE.sentence("Terms", "all together not above GUARDS");
        for (int n = 1; n <= 10; n++) {
            for (int guards = 0; guards <= 10; guards++) {
                GuardDesk x = new GuardDesk();
                x.guards(guards);
                for (int t = 0; t < n; t++) {
                    x.target(0, 4, -4, 6, 6);
                }
                Ratio want = new Ratio(Math.min(guards, n), n);
                String call = " of " + n + " alike with " + guards + " guards";
                DUE.fraction("share(0)" + call, x, x.share(0), want.above(), want.below());
                DUE.fraction("last share" + call, x, x.share(n - 1), want.above(), want.below());
            }
        }
    }

    /** Target 1 can be brought down to target 0 only if its MOST is 20 or more. */
    private static GuardDesk weakBesideDear(int most) {
        GuardDesk x = new GuardDesk();
        x.target(0, 9, 9, 4, 6);
        x.target(2, 0, -1, 6, 6);
        x.bounds(1, 0, most);
        return x;
    }

    private static void worthMostToThief() {
        DUE.sentence("Terms", "The thief comes to a TARGET that is worth most to them");
        GuardDesk just = weakBesideDear(20);
        DUE.is("best() of two worth the same to the thief", just.best(), 0);
        DUE.fraction("worth() of these", just, just.worth(), 9, 1);
        DUE.fraction("prize() of these", just, just.prize(), 4, 1);
        DUE.fraction("share(0) of these", just, just.share(0), 0, 1);
        DUE.fraction("share(1) of these", just, just.share(1), 1, 3);
        GuardDesk less = weakBesideDear(19);
        DUE.is("best() where one stays worth more", less.best(), 1);
        DUE.fraction("worth() there", less, less.worth(), -41, 60);
        DUE.fraction("prize() there", less, less.prize(), 41, 10);
        DUE.fraction("share(0) there", less, less.share(0), 0, 1);
        DUE.fraction("share(1) there", less, less.share(1), 19, 60);
        GuardDesk more = weakBesideDear(21);
        DUE.is("best() with a little left", more.best(), 0);
        DUE.fraction("worth() with it", more, more.worth(), 9, 1);
        DUE.fraction("prize() with it", more, more.prize(), 39, 10);
        DUE.fraction("share(0) with it", more, more.share(0), 1, 60);
        DUE.fraction("share(1) with it", more, more.share(1), 7, 20);
    }

    private static void worthMostToKeeper() {
        DUE.sentence("Terms", "THE BEST PLAN is one with the greatest WORTH of all");
        for (int worth = 4; worth <= 6; worth++) {
            GuardDesk x = new GuardDesk();
            x.target(0, worth, worth, 6, 6);
            x.target(0, 5, 5, 6, 6);
            DUE.is("best() of " + worth + " beside 5", x.best(), worth < 5 ? 1 : 0);
            DUE.fraction("worth() of " + worth + " beside 5", x, x.worth(), Math.max(5, worth), 1);
        }
        DUE.sentence("Terms", "of these one by which the thief comes to the least TARGET");
        GuardDesk x = new GuardDesk();
        x.target(0, 1, 1, 6, 6);
        for (int t = 1; t < 10; t++) {
            x.target(0, 5, 5, 6, 6);
        }
        DUE.is("best() of nine alike behind one worth less", x.best(), 1);
        // Worth the same to the keeper, but target 0 is not worth as much to the thief.
        GuardDesk y = new GuardDesk();
        y.guards(0);
        y.target(0, 5, 5, 5, 6);
        y.target(0, 5, 5, 6, 6);
        y.target(0, 5, 5, 6, 6);
        DUE.is("best() of the least that is worth most to the thief", y.best(), 1);
        y.guards(1);
        DUE.is("best() of the least when all can be brought down", y.best(), 0);
    }

    private static void greatestShare() {
        DUE.sentence("Terms", "of these that with the greatest SHARE of this TARGET");
        GuardDesk x = new GuardDesk();
        x.target(2, 5, 5, 6, 6);
        DUE.fraction("share(0): no worth lies in it", x, x.share(0), 1, 1);
        x.guards(10);
        DUE.fraction("share(0): no more than 1", x, x.share(0), 1, 1);
        x.bounds(0, 0, 30);
        DUE.fraction("share(0): no more than MOST", x, x.share(0), 1, 2);
        x.bounds(0, 0, 0);
        DUE.fraction("share(0): no more than a MOST of 0", x, x.share(0), 0, 1);
        x.bounds(0, 0, 60);
        x.guards(0);
        DUE.fraction("share(0): no more than no guards", x, x.share(0), 0, 1);
    }

    private static void eachGap() {
        DUE.sentence("Terms", "all together not above GUARDS");
        for (int gap : Due.GAPS) {
            GuardDesk x = new GuardDesk();
            x.target(0, 5, -5, 6, gap);
            x.guards(0);
            DUE.fraction("share(0) of gap " + gap + " without guards", x, x.share(0), 0, 1);
            DUE.fraction("prize() of gap " + gap + " without guards", x, x.prize(), 6, 1);
            x.guards(1);
            DUE.fraction("share(0) of gap " + gap + " with one", x, x.share(0), 1, 1);
            DUE.fraction("prize() of gap " + gap + " with one", x, x.prize(), 6 - gap, 1);
            x.target(0, 5, -5, 6, gap);
            DUE.fraction("share(1) of two with one", x, x.share(1), 1, 2);
            x.guards(2);
            DUE.fraction("share(1) of two with two", x, x.share(1), 1, 1);
            x.target(1, 5, -5, 6, 1);
            DUE.fraction("share(1) beside an open one", x, x.share(1), 0, 1);
        }
    }

    /** Target 0 stays worth 10 to the thief whatever the guards do. */
    private static GuardDesk besideOpen(int gain, int least) {
        GuardDesk x = new GuardDesk();
        x.target(1, 60, 60, 10, 1);
        x.target(3, 0, 0, gain, 10);
        x.bounds(1, least, 60);
        return x;
    }

    private static void otherShare(String what, GuardDesk x, int best, int above, int below) {
        DUE.is("best() " + what, x.best(), best);
        DUE.fraction("share(1) " + what, x, x.share(1), above, below);
    }

    private static void leastShareOfOthers() {
        DUE.sentence("Terms", "each other TARGET has the least SHARE with which it is not worth more to "
            + "the thief than this one");
        otherShare("worth one less", besideOpen(9, 0), 0, 0, 1);
        otherShare("worth as much", besideOpen(10, 0), 0, 0, 1);
        otherShare("worth one more", besideOpen(11, 0), 0, 1, 10);
        otherShare("brought down by a whole guard", besideOpen(20, 0), 0, 1, 1);
        otherShare("not to be brought down", besideOpen(21, 0), 1, 1, 1);
        otherShare("with a least that is too little", besideOpen(11, 5), 0, 1, 10);
        otherShare("with a least that is just enough", besideOpen(11, 6), 0, 1, 10);
        otherShare("with a least that is more", besideOpen(11, 7), 0, 7, 60);
        otherShare("with all as least", besideOpen(11, 60), 0, 1, 1);
    }

    private static void noSuchTarget() {
        DUE.sentence("Promise 10", "no such TARGET");
        for (int n = 0; n <= 10; n++) {
            GuardDesk x = new GuardDesk();
            for (int t = 0; t < n; t++) {
                x.target(0, 0, 0, 0, 1);
            }
            x.guards(10);
            DUE.outside("share(t) of " + n, 0, n - 1, x::share, Due.BAD);
            for (int t = 0; t < n; t++) {
                DUE.is("share(" + t + ") of " + n, x.share(t), 1);
            }
        }
        DUE.sentence("Promise 10", "NONE.");
        GuardDesk x = new GuardDesk();
        x.guards(0);
        x.target(3, 0, 0, 0, 1);
        x.bounds(0, 1, 1);
        DUE.is("share(0) without a plan", x.share(0), Due.NONE);
        DUE.is("share(1) without a plan", x.share(1), Due.BAD);
        DUE.is("share(-1) without a plan", x.share(-1), Due.BAD);
    }

    private static void below() {
        DUE.sentence("Promise 11", "What is below the latest FRACTION that was answered.");
        GuardDesk x = new GuardDesk();
        for (int t = 0; t < 7; t++) {
            x.target(0, 4, -4, 6, 6);
        }
        x.put(0, 1);
        DUE.is("share(0)", x.share(0), 1);
        DUE.is("below() of share", x.below(), 7);
        DUE.is("errs(3600)", x.errs(3600), -4);
        DUE.is("below() of errs", x.below(), 1);
        DUE.is("chance(6)", x.chance(6), 1);
        DUE.is("below() of chance", x.below(), 7);
        DUE.is("handWorth()", x.handWorth(), -4);
        DUE.is("below() of handWorth", x.below(), 1);
        DUE.is("worth()", x.worth(), -20);
        DUE.is("below() of worth", x.below(), 7);
        DUE.is("below() again", x.below(), 7);
        DUE.is("handWorth() again", x.handWorth(), -4);
        DUE.is("prize()", x.prize(), 36);
        DUE.is("below() of prize", x.below(), 7);
        x.keep();
        DUE.is("errs(0)", x.errs(0), -4);
        x.back();
        DUE.is("below() behind back(): the latest that was answered", x.below(), 1);
        DUE.is("share(6)", x.share(6), 1);
        DUE.is("share(7)", x.share(7), Due.BAD);
        DUE.is("chance(7)", x.chance(7), Due.NONE);
        DUE.is("errs(3601)", x.errs(3601), Due.BAD);
        DUE.is("below() behind findings", x.below(), 7);
        DUE.is("best(), comes() and lots() are no fractions", x.best() + x.comes() + x.lots(), 8);
        DUE.is("below() behind these", x.below(), 7);
    }

    private static void tenTargets() {
        DUE.sentence("Promise 8", "THE WORTH of THE BEST PLAN, a FRACTION.");
        GuardDesk x = new GuardDesk();
        for (int t = 0; t < 10; t++) {
            x.target(0, 60, -60, 60, 60);
        }
        DUE.fraction("worth() of ten of the greatest pays", x, x.worth(), -48, 1);
        DUE.sentence("Promise 9", "What its TARGET is worth to the thief by THE BEST PLAN");
        DUE.fraction("prize() of ten of the greatest pays", x, x.prize(), 54, 1);
        x.guards(10);
        DUE.fraction("prize() of ten with ten guards", x, x.prize(), 0, 1);
        DUE.fraction("worth() of ten with ten guards", x, x.worth(), 60, 1);
        GuardDesk y = new GuardDesk();
        y.target(0, -60, -60, -60, 60);
        DUE.fraction("prize() of the least gain", y, y.prize(), -120, 1);
        DUE.fraction("worth() of the least pay", y, y.worth(), -60, 1);
    }
}
