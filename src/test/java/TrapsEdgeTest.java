/** The edges of promises 27 to 30, and of what the terms say of haunts. */
public final class TrapsEdgeTest {
    private static final Due DUE = new Due("TrapsEdgeTest");

    public static void main(String[] args) {
        haunt();
        twentyHaunts();
        caught();
        trapsRange();
        trapsTies();
        cover();
        DUE.end();
    }

    private static GuardDesk haunts(int... places) {
        GuardDesk x = new GuardDesk();
        for (int one : places) {
            x.haunt(one, 1);
        }
        return x;
    }

    private static void haunt() {
        DUE.sentence("Promise 27", "places is not 1 .. 1023");
        DUE.range("haunt(places, 1)", 1, 1023, places -> new GuardDesk().haunt(places, 1), places -> 0);
        DUE.sentence("Promise 27", "weight not 1 .. 1000");
        DUE.range("haunt(1, weight)", 1, 1000, weight -> new GuardDesk().haunt(1, weight), weight -> 0);
        GuardDesk x = new GuardDesk();
        x.haunt(1023, 1000);
        x.haunt(512, 1);
        DUE.is("caught(512)", x.caught(512), 1001);
        DUE.is("caught(1)", x.caught(1), 1000);
    }

    private static void twentyHaunts() {
        DUE.sentence("Promise 27", "or there are 20");
        GuardDesk x = new GuardDesk();
        for (int h = 0; h < 20; h++) {
            DUE.is("haunt as number " + h, x.haunt(1023, 1000), h);
            DUE.is("count(5)", x.count(5), h + 1);
        }
        DUE.is("a twenty-first", x.haunt(1, 1), Due.BAD);
        DUE.is("count(5)", x.count(5), 20);
        DUE.sentence("Terms", "numbered from 0, 20 at most, each with a WEIGHT (1 to 1000)");
        DUE.is("caught(1) of twenty of 1000", x.caught(1), 20000);
        DUE.is("traps(1) of twenty alike", x.traps(1), 1);
        DUE.is("cover() of twenty alike", x.cover(), 1);
    }

    private static void caught() {
        DUE.sentence("Promise 28", "it is not 0 .. 1023");
        GuardDesk x = haunts(1, 512, 1023);
        DUE.range("caught(places)", 0, 1023, x::caught, places -> places == 0 ? 0 : 3);
        DUE.outside("caught(places) without haunts", 0, 1023, p -> new GuardDesk().caught(p), Due.BAD);
        DUE.sentence("Promise 28", "The sum of the WEIGHTS of HAUNTS that TRAPS on a set of PLACES CATCH.");
        DUE.is("caught(0) without haunts", new GuardDesk().caught(0), 0);
        DUE.is("caught(1023) without haunts", new GuardDesk().caught(1023), 0);
        DUE.is("caught(1)", x.caught(1), 2);
        DUE.is("caught(2)", x.caught(2), 1);
        DUE.is("caught(512)", x.caught(512), 2);
        DUE.is("caught(513): each but once", x.caught(513), 3);
        DUE.sentence("Terms", "TRAPS on PLACES CATCH the HAUNTS that have one of these.");
        for (int place = 0; place < 10; place++) {
            GuardDesk y = haunts(1 << place);
            DUE.is("caught of just its place", y.caught(1 << place), 1);
            DUE.is("caught of all other places", y.caught(1023 - (1 << place)), 0);
        }
    }

    private static void trapsRange() {
        DUE.sentence("Promise 29", "n is not 0 .. 10");
        GuardDesk all = haunts(1, 2, 4, 8, 16, 32, 64, 128, 256, 512);
        DUE.range("traps(n)", 0, 10, all::traps, n -> n == 0 ? 0 : 1023);
        DUE.outside("traps(n) without haunts", 0, 10, n -> new GuardDesk().traps(n), Due.BAD);
        DUE.sentence("Promise 29", "The set of PLACES, n at most, that CATCHES the most");
        for (int n = 0; n <= 10; n++) {
            DUE.is("traps(" + n + ") of ten alike", all.traps(n), (1 << n) - 1);
            DUE.is("traps(" + n + ") without haunts", new GuardDesk().traps(n), 0);
        }
        GuardDesk x = new GuardDesk();
        for (int place = 0; place < 10; place++) {
            x.haunt(1 << place, 1 + place);
        }
        for (int n = 0; n <= 10; n++) {
            DUE.is("traps(" + n + ") of ten, each heavier", x.traps(n), 1023 - ((1 << 10 - n) - 1));
        }
    }

    private static void trapsTies() {
        DUE.sentence("Promise 29", "of several the one with the fewest PLACES");
        GuardDesk x = haunts(0b1001, 0b1010, 0b1100);
        for (int n = 1; n <= 10; n++) {
            DUE.is("traps(" + n + "): 8 alone, not 7", x.traps(n), 8);
        }
        DUE.sentence("Promise 29", "then the least number");
        GuardDesk y = haunts(0b1100000000, 0b0000000011);
        DUE.is("traps(1): one of four", y.traps(1), 1);
        DUE.is("traps(2): 257, 258, 513 or 514", y.traps(2), 257);
        GuardDesk z = new GuardDesk();
        z.haunt(1, 1);
        z.haunt(2, 2);
        z.haunt(4, 2);
        DUE.is("traps(1): the most, not the least", z.traps(1), 2);
        DUE.is("traps(2)", z.traps(2), 6);
        DUE.is("traps(3)", z.traps(3), 7);
    }

    private static void cover() {
        DUE.sentence("Promise 30", "The set with the fewest PLACES that CATCHES all HAUNTS");
        DUE.is("cover() without haunts", new GuardDesk().cover(), 0);
        DUE.is("cover() of one with all places", haunts(1023).cover(), 1);
        DUE.is("cover() of one with the last place", haunts(512).cover(), 512);
        DUE.is("cover() of all places", haunts(1, 2, 4, 8, 16, 32, 64, 128, 256, 512).cover(), 1023);
        DUE.is("cover() of nine places", haunts(1, 2, 4, 8, 16, 32, 64, 128, 256).cover(), 511);
        DUE.is("cover(): 8 alone, not 7", haunts(0b1001, 0b1010, 0b1100).cover(), 8);
        DUE.sentence("Promise 30", "of several the least number");
        DUE.is("cover(): one of 1, 2, 512", haunts(0b1000000011).cover(), 1);
        DUE.is("cover(): 257, 258, 513 or 514", haunts(0b1100000000, 0b11).cover(), 257);
    }
}
