import java.util.Random;

/** Promises 27 to 30: haunt, caught, traps, cover. */
public final class TrapsTest {
    private static final Due DUE = new Due("TrapsTest");

    public static void main(String[] args) {
        haunt();
        caught();
        sets();
        Random random = new Random(19);
        for (int i = 0; i < 500; i++) {
            againstAllSets(random, i);
        }
        DUE.end();
    }

    private static void haunt() {
        GuardDesk x = new GuardDesk();
        int[][] wrong = {{0, 1}, {1024, 1}, {-1, 1}, {1, 0}, {1, 1001}, {1, -1}};
        for (int[] w : wrong) {
            DUE.is("wrong haunt", x.haunt(w[0], w[1]), Due.BAD);
        }
        for (int far : Due.FAR) {
            DUE.is("haunt(far, 1)", x.haunt(far, 1), Due.BAD);
            DUE.is("haunt(1, far)", x.haunt(1, far), Due.BAD);
        }
        DUE.is("count(5)", x.count(5), 0);
        for (int h = 0; h < 20; h++) {
            DUE.is("haunt " + h, x.haunt(h % 2 == 0 ? 1 : 1023, h % 2 == 0 ? 1000 : 1), h);
            DUE.is("count(5)", x.count(5), h + 1);
        }
        DUE.is("haunt 20", x.haunt(2, 2), Due.BAD);
        DUE.is("count(5)", x.count(5), 20);
        DUE.is("caught(1)", x.caught(1), 10010);
        DUE.is("caught(512)", x.caught(512), 10);
    }

    private static void caught() {
        GuardDesk x = new GuardDesk();
        DUE.is("caught(1023) without haunts", x.caught(1023), 0);
        x.haunt(0b11, 3);
        x.haunt(0b110, 50);
        x.haunt(0b11, 700);
        DUE.is("caught(0)", x.caught(0), 0);
        DUE.is("caught(1)", x.caught(1), 703);
        DUE.is("caught(2)", x.caught(2), 753);
        DUE.is("caught(4)", x.caught(4), 50);
        DUE.is("caught(5)", x.caught(5), 753);
        DUE.is("caught(1016)", x.caught(1016), 0);
        DUE.is("caught(1023)", x.caught(1023), 753);
        DUE.is("caught(1024)", x.caught(1024), Due.BAD);
        DUE.is("caught(-1)", x.caught(-1), Due.BAD);
        for (int far : Due.FAR) {
            DUE.is("caught(far)", x.caught(far), Due.BAD);
        }
    }

    private static void sets() {
        GuardDesk x = new GuardDesk();
        DUE.is("traps(10) without haunts", x.traps(10), 0);
        DUE.is("cover() without haunts", x.cover(), 0);
        DUE.is("traps(11)", x.traps(11), Due.BAD);
        DUE.is("traps(-1)", x.traps(-1), Due.BAD);
        for (int far : Due.FAR) {
            DUE.is("traps(far)", x.traps(far), Due.BAD);
        }
        x.haunt(0b1001, 5);
        x.haunt(0b1010, 5);
        x.haunt(0b0100, 4);
        DUE.is("traps(0)", x.traps(0), 0);
        DUE.is("traps(1)", x.traps(1), 0b1000);
        DUE.is("traps(2)", x.traps(2), 0b1100);
        DUE.is("traps(3): the fewest, not 0b0111", x.traps(3), 0b1100);
        DUE.is("traps(10)", x.traps(10), 0b1100);
        DUE.is("cover()", x.cover(), 0b1100);
        GuardDesk y = new GuardDesk();
        for (int place = 0; place < 10; place++) {
            y.haunt(1 << place, 1);
        }
        DUE.is("cover() of all", y.cover(), 1023);
        DUE.is("traps(10) of all", y.traps(10), 1023);
        DUE.is("traps(9) of all", y.traps(9), 511);
        DUE.is("traps(1) of all", y.traps(1), 1);
        DUE.is("count(5): nothing changes", y.count(5), 10);
    }

    private static void againstAllSets(Random random, int i) {
        GuardDesk x = new GuardDesk();
        int n = random.nextInt(21);
        int[] places = new int[n];
        int[] weight = new int[n];
        int sum = 0;
        for (int h = 0; h < n; h++) {
            places[h] = 1 + random.nextInt(1023);
            if (i % 2 == 0) {
                places[h] = 1 << random.nextInt(10) | 1 << random.nextInt(10);
            }
            weight[h] = 1 + random.nextInt(i % 3 == 0 ? 2 : 1000);
            sum += weight[h];
            x.haunt(places[h], weight[h]);
        }
        int most = random.nextInt(11);
        int best = 0;
        int bestSum = 0;
        int cover = -1;
        for (int size = 0; size <= 10; size++) {
            for (int set = 0; set < 1024; set++) {
                int got = Integer.bitCount(set) == size ? weightOf(places, weight, set) : -1;
                if (size <= most && got > bestSum) {
                    best = set;
                    bestSum = got;
                }
                if (cover < 0 && got == sum) {
                    cover = set;
                }
            }
        }
        DUE.is("traps(" + most + ") of run " + i, x.traps(most), best);
        DUE.is("caught(" + best + ") of run " + i, x.caught(best), bestSum);
        DUE.is("cover() of run " + i, x.cover(), cover);
    }

    private static int weightOf(int[] places, int[] weight, int set) {
        int sum = 0;
        for (int h = 0; h < places.length; h++) {
            sum += (places[h] & set) != 0 ? weight[h] : 0;
        }
        return sum;
    }
}
