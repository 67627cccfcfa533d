/** The edges of promises 20 to 23, and of what the terms say of places and roads. */
public final class RoadsEdgeTest {
    private static final Due DUE = new Due("RoadsEdgeTest");

    public static void main(String[] args) {
        places();
        lengths();
        sixteenRoads();
        oneWayAlone();
        bar();
        shortest();
        noWay();
        barsRange();
        barsAtMost();
        barsNotBarred();
        barsGreatest();
        barsTies();
        barsOfTwoSteps();
        barsOfSixteen();
        barsChangeNothing();
        DUE.end();
    }

    /** Roads from place 0 to 1 with these lengths. */
    private static GuardDesk abreast(int... lengths) {
        GuardDesk x = new GuardDesk();
        for (int length : lengths) {
            x.road(0, 1, length);
        }
        return x;
    }

    /** Nine roads in a row, from place 0 to place 9. */
    private static GuardDesk chain(int length) {
        GuardDesk x = new GuardDesk();
        for (int place = 0; place < 9; place++) {
            x.road(place, place + 1, length);
        }
        return x;
    }

    private static void places() {
        DUE.sentence("Promise 20", "one is no PLACE");
        DUE.range("road(from, 5, 1)", 0, 9, from -> new GuardDesk().road(from, 5, 1), from -> 0);
        DUE.range("road(5, to, 1)", 0, 9, to -> new GuardDesk().road(5, to, 1), to -> 0);
        DUE.sentence("Promise 20", "both are the same");
        for (int place = -1; place <= 10; place++) {
            String call = "road(" + place + ", " + place + ", 1)";
            DUE.is(call, new GuardDesk().road(place, place, 1), Due.BAD);
        }
        DUE.sentence("Terms", "each from a PLACE to another one");
        DUE.is("road(0, 1, 1)", new GuardDesk().road(0, 1, 1), 0);
        DUE.is("road(0, 0, 1)", new GuardDesk().road(0, 0, 1), Due.BAD);
        DUE.sentence("Terms", "PLACES are 0 to 9.");
        DUE.is("road(0, 9, 1)", new GuardDesk().road(0, 9, 1), 0);
        DUE.is("road(9, 0, 1)", new GuardDesk().road(9, 0, 1), 0);
        DUE.is("road(9, 10, 1)", new GuardDesk().road(9, 10, 1), Due.BAD);
        DUE.is("road(-1, 0, 1)", new GuardDesk().road(-1, 0, 1), Due.BAD);
    }

    private static void lengths() {
        DUE.sentence("Promise 20", "length is not 1 .. 100");
        DUE.range("road(0, 1, length)", 1, 100, length -> new GuardDesk().road(0, 1, length), length -> 0);
        DUE.is("shortest of length 1", abreast(1).shortest(0, 1), 1);
        DUE.is("shortest of length 100", abreast(100).shortest(0, 1), 100);
    }

    private static void sixteenRoads() {
        DUE.sentence("Promise 20", "or there are 16");
        GuardDesk x = new GuardDesk();
        for (int r = 0; r < 16; r++) {
            DUE.is("road as number " + r, x.road(0, 1, 100 - r), r);
            DUE.is("count(2)", x.count(2), r + 1);
        }
        DUE.is("a seventeenth", x.road(0, 1, 1), Due.BAD);
        DUE.is("count(2)", x.count(2), 16);
        DUE.is("shortest(0, 1)", x.shortest(0, 1), 85);
        DUE.is("the last is there", x.bar(15, true), 0);
        DUE.is("shortest(0, 1) without the last", x.shortest(0, 1), 86);
        DUE.is("a seventeenth beside a barred one", x.road(0, 1, 1), Due.BAD);
    }

    private static void oneWayAlone() {
        DUE.sentence("Terms", "with a LENGTH (1 to 100), one way alone");
        GuardDesk x = abreast(7);
        DUE.is("shortest(0, 1)", x.shortest(0, 1), 7);
        DUE.is("shortest(1, 0)", x.shortest(1, 0), Due.NONE);
        DUE.is("road(1, 0, 9): a road of its own", x.road(1, 0, 9), 1);
        DUE.is("shortest(0, 1)", x.shortest(0, 1), 7);
        DUE.is("shortest(1, 0)", x.shortest(1, 0), 9);
    }

    private static void bar() {
        DUE.sentence("Promise 21", "no such ROAD");
        for (int n = 0; n <= 16; n++) {
            GuardDesk x = new GuardDesk();
            for (int r = 0; r < n; r++) {
                x.road(0, 1, 1);
            }
            DUE.outside("bar(r, true) of " + n, 0, n - 1, r -> x.bar(r, true), Due.BAD);
            DUE.outside("bar(r, false) of " + n, 0, n - 1, r -> x.bar(r, false), Due.BAD);
            DUE.is("bar(31, true) of " + n, x.bar(31, true), Due.BAD);
            DUE.is("bar(32, true) of " + n, x.bar(32, true), Due.BAD);
            DUE.is("count(3) of " + n, x.count(3), 0);
            for (int r = 0; r < n; r++) {
                DUE.is("bar(" + r + ", true) of " + n, x.bar(r, true), 0);
                DUE.is("count(3) of " + n, x.count(3), r + 1);
            }
        }
        DUE.sentence("Promise 21", "1 if it was, else 0");
        GuardDesk x = abreast(1);
        DUE.is("bar(0, false) of one that is not", x.bar(0, false), 0);
        DUE.is("bar(0, true) of one that is not", x.bar(0, true), 0);
        DUE.is("bar(0, true) of one that is", x.bar(0, true), 1);
        DUE.is("bar(0, false) of one that is", x.bar(0, false), 1);
        DUE.is("bar(0, false) of one that was", x.bar(0, false), 0);
    }

    private static void shortest() {
        DUE.sentence("Promise 22", "one is none");
        GuardDesk x = new GuardDesk();
        DUE.range("shortest(from, from)", 0, 9, from -> x.shortest(from, from), from -> 0);
        DUE.outside("shortest(from, 0)", 0, 9, from -> x.shortest(from, 0), Due.BAD);
        DUE.outside("shortest(0, to)", 0, 9, to -> x.shortest(0, to), Due.BAD);
        DUE.sentence("Terms", "SHORT is the least sum of their LENGTHS (0 from a place to itself)");
        GuardDesk far = chain(100);
        DUE.is("shortest(0, 9) of nine roads of 100", far.shortest(0, 9), 900);
        DUE.is("shortest(0, 9) of nine roads of 1", chain(1).shortest(0, 9), 9);
        far.road(9, 0, 1);
        for (int place = 0; place < 10; place++) {
            DUE.is("shortest to itself, on a round", far.shortest(place, place), 0);
        }
        DUE.is("shortest(1, 0), all round but one", far.shortest(1, 0), 801);
        far.road(0, 9, 100);
        DUE.is("shortest(0, 9) with a road of its own", far.shortest(0, 9), 100);
        GuardDesk same = abreast(5, 5, 6);
        DUE.is("shortest(0, 1) of several", same.shortest(0, 1), 5);
    }

    private static void noWay() {
        DUE.sentence("Promise 22", "there is no WAY");
        DUE.is("shortest(0, 1) without roads", new GuardDesk().shortest(0, 1), Due.NONE);
        for (int r = 0; r < 9; r++) {
            GuardDesk x = chain(1);
            x.bar(r, true);
            DUE.is("shortest(0, 9) with road " + r + " barred", x.shortest(0, 9), Due.NONE);
            DUE.is("shortest(0, " + r + ") ahead of it", x.shortest(0, r), r);
            DUE.is("shortest behind it", x.shortest(r + 1, 9), 8 - r);
        }
        DUE.sentence("Terms", "A WAY from a PLACE to a PLACE is by ROADS that are not BARRED");
        GuardDesk x = abreast(5, 6);
        x.bar(0, true);
        DUE.is("shortest(0, 1) by the other", x.shortest(0, 1), 6);
        x.bar(1, true);
        DUE.is("shortest(0, 1), both barred", x.shortest(0, 1), Due.NONE);
        DUE.is("shortest(0, 0), both barred", x.shortest(0, 0), 0);
    }

    private static void barsRange() {
        DUE.sentence("Promise 23", "one is no PLACE, or n is not 0 .. 4");
        GuardDesk x = abreast(1, 2, 3, 4, 5);
        DUE.range("bars(from, from, 1)", 0, 9, from -> x.bars(from, from, 1), from -> 0);
        DUE.outside("bars(from, 1, 1)", 0, 9, from -> x.bars(from, 1, 1), Due.BAD);
        DUE.outside("bars(0, to, 1)", 0, 9, to -> x.bars(0, to, 1), Due.BAD);
        DUE.range("bars(0, 1, n)", 0, 4, n -> x.bars(0, 1, n), n -> n == 0 ? 0 : 15);
        DUE.outside("bars(0, 1, n) without roads", 0, 4, n -> new GuardDesk().bars(0, 1, n), Due.BAD);
    }

    private static void barsAtMost() {
        DUE.sentence("Promise 23", "The set of ROADS (bits), n at most");
        for (int roads = 0; roads <= 5; roads++) {
            GuardDesk alike = new GuardDesk();
            GuardDesk longer = new GuardDesk();
            for (int r = 0; r < roads; r++) {
                alike.road(0, 1, 7);
                longer.road(0, 1, 7 + r);
            }
            for (int n = 0; n <= 4; n++) {
                String call = "bars(0, 1, " + n + ") of " + roads;
                int cut = (1 << roads) - 1;
                DUE.is(call + " alike", alike.bars(0, 1, n), n >= roads ? cut : 0);
                int shortest = (1 << Math.min(n, roads)) - 1;
                DUE.is(call + " each longer", longer.bars(0, 1, n), shortest);
            }
        }
    }

    private static void barsNotBarred() {
        DUE.sentence("Promise 23", "none of them BARRED");
        GuardDesk x = abreast(1, 2, 3, 4, 5);
        x.bar(0, true);
        DUE.is("bars(0, 1, 1)", x.bars(0, 1, 1), 0b00010);
        DUE.is("bars(0, 1, 4)", x.bars(0, 1, 4), 0b11110);
        x.bar(4, true);
        DUE.is("bars(0, 1, 4) of three left", x.bars(0, 1, 4), 0b01110);
        for (int r = 1; r < 4; r++) {
            x.bar(r, true);
        }
        DUE.is("bars(0, 1, 4) of none left", x.bars(0, 1, 4), 0);
    }

    private static void barsGreatest() {
        DUE.sentence("Promise 23", "make SHORT the greatest (no WAY being greater than all)");
        GuardDesk x = new GuardDesk();
        x.road(1, 9, 1);
        for (int place = 1; place < 9; place++) {
            x.road(place, place + 1, 100);
        }
        DUE.is("road(0, 1, 100)", x.road(0, 1, 100), 9);
        // Road 0 barred leaves a way of 900, road 9 barred none.
        DUE.is("bars(0, 9, 1)", x.bars(0, 9, 1), 1 << 9);
        DUE.is("bars(1, 9, 1)", x.bars(1, 9, 1), 1);
        GuardDesk one = new GuardDesk();
        one.road(0, 1, 1);
        one.road(0, 1, 2);
        DUE.is("bars(0, 1, 1): one more is greater", one.bars(0, 1, 1), 1);
        DUE.is("bars(1, 0, 4): no way without it", one.bars(1, 0, 4), 0);
        DUE.is("bars(0, 0, 4): 0 with or without", one.bars(0, 0, 4), 0);
    }

    private static void barsTies() {
        DUE.sentence("Promise 23", "of several the one with the fewest ROADS");
        GuardDesk x = chain(1);
        for (int n = 1; n <= 4; n++) {
            DUE.is("bars(0, 9, " + n + ") of a chain", x.bars(0, 9, n), 1);
        }
        // Roads 0 and 1 barred leave no way; road 2 alone does so, too.
        GuardDesk y = new GuardDesk();
        y.road(0, 1, 1);
        y.road(0, 1, 1);
        y.road(1, 2, 1);
        DUE.is("bars(0, 2, 4): one of a higher number", y.bars(0, 2, 4), 4);
        DUE.sentence("Promise 23", "then the least number");
        GuardDesk z = new GuardDesk();
        z.road(1, 2, 1);
        z.road(1, 2, 1);
        z.road(0, 1, 1);
        z.road(0, 1, 1);
        DUE.is("bars(0, 2, 1): none helps", z.bars(0, 2, 1), 0);
        DUE.is("bars(0, 2, 2): 3 or 12", z.bars(0, 2, 2), 3);
        DUE.is("bars(0, 1, 2)", z.bars(0, 1, 2), 12);
        for (int from = 0; from < 9; from++) {
            DUE.is("bars(" + from + ", 9, 1) of a chain", x.bars(from, 9, 1), 1 << from);
        }
    }

    /** As many roads from 0 to 1 and from 1 to 2 as told, each with the number told for it. */
    private static GuardDesk twoSteps(int first, int second) {
        GuardDesk x = new GuardDesk();
        for (int r = 0; r < 16; r++) {
            if ((first >> r & 1) != 0) {
                x.road(0, 1, 1 + r);
            } else if ((second >> r & 1) != 0) {
                x.road(1, 2, 1 + r);
            } else {
                x.road(8, 9, 1);
            }
        }
        return x;
    }

    private static void barsOfTwoSteps() {
        DUE.sentence("Promise 23", "of several the one with the fewest ROADS");
        DUE.is("two of high numbers, not three", twoSteps(514, 28).bars(0, 2, 3), 514);
        DUE.is("two of high numbers, not three", twoSteps(28, 514).bars(0, 2, 4), 514);
        DUE.is("three of high numbers, not four", twoSteps(0xE000, 15).bars(0, 2, 4), 0xE000);
        DUE.sentence("Promise 23", "then the least number");
        DUE.is("6, not 33", twoSteps(33, 6).bars(0, 2, 2), 6);
        DUE.is("6, not 33", twoSteps(6, 33).bars(0, 2, 4), 6);
        DUE.is("6, not 0x8001", twoSteps(0x8001, 6).bars(0, 2, 4), 6);
    }

    private static void barsOfSixteen() {
        DUE.sentence("Terms", "ROADS are numbered from 0, 16 at most");
        GuardDesk x = new GuardDesk();
        for (int r = 0; r < 16; r++) {
            x.road(0, 1, 16 - r);
        }
        DUE.is("bars(0, 1, 4)", x.bars(0, 1, 4), 0xF000);
        DUE.is("bars(0, 1, 1)", x.bars(0, 1, 1), 1 << 15);
        x.bar(15, true);
        DUE.is("bars(0, 1, 4) with the last barred", x.bars(0, 1, 4), 0x7800);
        for (int r = 4; r < 15; r++) {
            x.bar(r, true);
        }
        DUE.is("bars(0, 1, 4) of four left", x.bars(0, 1, 4), 15);
    }

    private static void barsChangeNothing() {
        DUE.sentence("Promise 23", "(Nothing changes.)");
        String before = Picture.of(Desks::full);
        String after = Picture.of(() -> {
            GuardDesk x = Desks.full();
            x.bars(0, 9, 4);
            x.bars(0, 1, 2);
            return x;
        });
        DUE.holds("a full desk is as it was", after.equals(before));
    }
}
