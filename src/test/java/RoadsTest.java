import java.util.Random;

/** Promises 20 to 23: road, bar, shortest, bars. */
public final class RoadsTest {
    private static final Due DUE = new Due("RoadsTest");
    private static final int NO_WAY = 1 << 20;

    public static void main(String[] args) {
        road();
        bar();
        shortest();
        bars();
        Random random = new Random(17);
        for (int i = 0; i < 600; i++) {
            againstAllSets(random, i);
        }
        DUE.end();
    }

    private static void road() {
        GuardDesk x = new GuardDesk();
        int[][] wrong = {{-1, 0, 1}, {0, -1, 1}, {10, 0, 1}, {0, 10, 1}, {3, 3, 1}, {0, 1, 0},
            {0, 1, 101}, {0, 1, -1}};
        for (int[] w : wrong) {
            DUE.is("wrong road", x.road(w[0], w[1], w[2]), Due.BAD);
        }
        for (int far : Due.FAR) {
            DUE.is("road(far, 0, 1)", x.road(far, 0, 1), Due.BAD);
            DUE.is("road(0, far, 1)", x.road(0, far, 1), Due.BAD);
            DUE.is("road(far, far, 1)", x.road(far, far, 1), Due.BAD);
            DUE.is("road(0, 1, far)", x.road(0, 1, far), Due.BAD);
        }
        DUE.is("count(2)", x.count(2), 0);
        for (int r = 0; r < 16; r++) {
            DUE.is("road " + r, x.road(r % 2 == 0 ? 0 : 9, r % 2 == 0 ? 9 : 0, r % 2 == 0 ? 1 : 100), r);
            DUE.is("count(2)", x.count(2), r + 1);
        }
        DUE.is("road 16", x.road(1, 2, 3), Due.BAD);
        DUE.is("count(2)", x.count(2), 16);
        DUE.is("shortest(0, 9)", x.shortest(0, 9), 1);
        DUE.is("shortest(9, 0)", x.shortest(9, 0), 100);
    }

    private static void bar() {
        GuardDesk x = new GuardDesk();
        x.road(0, 1, 5);
        x.road(0, 1, 7);
        DUE.is("bar(2, true)", x.bar(2, true), Due.BAD);
        DUE.is("bar(-1, true)", x.bar(-1, true), Due.BAD);
        for (int far : Due.FAR) {
            DUE.is("bar(far, true)", x.bar(far, true), Due.BAD);
        }
        DUE.is("bar(0, false)", x.bar(0, false), 0);
        DUE.is("bar(0, true)", x.bar(0, true), 0);
        DUE.is("count(3)", x.count(3), 1);
        DUE.is("shortest(0, 1)", x.shortest(0, 1), 7);
        DUE.is("bar(0, true)", x.bar(0, true), 1);
        DUE.is("count(3)", x.count(3), 1);
        DUE.is("bar(1, true)", x.bar(1, true), 0);
        DUE.is("count(3)", x.count(3), 2);
        DUE.is("shortest(0, 1)", x.shortest(0, 1), Due.NONE);
        DUE.is("bar(0, false)", x.bar(0, false), 1);
        DUE.is("bar(0, false)", x.bar(0, false), 0);
        DUE.is("count(3)", x.count(3), 1);
        DUE.is("shortest(0, 1)", x.shortest(0, 1), 5);
    }

    private static void shortest() {
        GuardDesk x = new GuardDesk();
        for (int place = 9; place > 0; place--) {
            x.road(place - 1, place, 100);
        }
        DUE.is("shortest(0, 9)", x.shortest(0, 9), 900);
        DUE.is("shortest(9, 0): one way alone", x.shortest(9, 0), Due.NONE);
        DUE.is("shortest(9, 9)", x.shortest(9, 9), 0);
        x.road(0, 4, 99);
        DUE.is("shortest(0, 9) by a short cut", x.shortest(0, 9), 599);
        DUE.is("shortest(10, 0)", x.shortest(10, 0), Due.BAD);
        DUE.is("shortest(0, 10)", x.shortest(0, 10), Due.BAD);
        DUE.is("shortest(-1, -1)", x.shortest(-1, -1), Due.BAD);
        for (int far : Due.FAR) {
            DUE.is("shortest(far, 0)", x.shortest(far, 0), Due.BAD);
            DUE.is("shortest(0, far)", x.shortest(0, far), Due.BAD);
        }
        DUE.is("count(6)", x.count(6), 0);
    }

    private static void bars() {
        GuardDesk x = new GuardDesk();
        x.road(0, 1, 3);
        x.road(0, 1, 2);
        x.road(1, 2, 1);
        x.road(1, 2, 1);
        DUE.is("bars(0, 2, 0)", x.bars(0, 2, 0), 0);
        DUE.is("bars(0, 2, 1)", x.bars(0, 2, 1), 2);
        DUE.is("bars(0, 2, 2): no way, the least number", x.bars(0, 2, 2), 3);
        DUE.is("bars(0, 2, 4): the fewest", x.bars(0, 2, 4), 3);
        DUE.is("bars(1, 2, 1): one is as good as none", x.bars(1, 2, 1), 0);
        DUE.is("bars(1, 2, 2)", x.bars(1, 2, 2), 12);
        x.bar(1, true);
        DUE.is("bars(0, 2, 1): not what is barred", x.bars(0, 2, 1), 1);
        DUE.is("bars(0, 0, 4)", x.bars(0, 0, 4), 0);
        DUE.is("bars(2, 0, 4)", x.bars(2, 0, 4), 0);
        DUE.is("bars(0, 2, 5)", x.bars(0, 2, 5), Due.BAD);
        DUE.is("bars(0, 2, -1)", x.bars(0, 2, -1), Due.BAD);
        DUE.is("bars(10, 2, 1)", x.bars(10, 2, 1), Due.BAD);
        DUE.is("bars(0, -1, 1)", x.bars(0, -1, 1), Due.BAD);
        for (int far : Due.FAR) {
            DUE.is("bars(far, 0, 1)", x.bars(far, 0, 1), Due.BAD);
            DUE.is("bars(0, far, 1)", x.bars(0, far, 1), Due.BAD);
            DUE.is("bars(0, 1, far)", x.bars(0, 1, far), Due.BAD);
        }
        DUE.is("count(3): nothing changes", x.count(3), 1);
        DUE.is("shortest(0, 2): nothing changes", x.shortest(0, 2), 4);
    }

    private static void againstAllSets(Random random, int i) {
        int places = 2 + random.nextInt(i % 5 == 0 ? 9 : 4);
        int n = random.nextInt(17);
        int longest = i % 2 == 0 ? 3 : 100;
        int[][] roads = new int[n][3];
        int barred = 0;
        GuardDesk x = new GuardDesk();
        for (int r = 0; r < n; r++) {
            int from = random.nextInt(places);
            int to = (from + 1 + random.nextInt(places - 1)) % places;
            roads[r] = new int[] {from, to, 1 + random.nextInt(longest)};
            x.road(from, to, roads[r][2]);
            if (random.nextInt(8) == 0) {
                barred |= 1 << r;
                x.bar(r, true);
            }
        }
        int from = random.nextInt(places);
        int to = random.nextInt(places);
        int most = random.nextInt(5);
        int now = length(roads, barred, from, to);
        DUE.is("shortest", x.shortest(from, to), now == NO_WAY ? Due.NONE : now);
        int found = 0;
        for (int set = 1; set < 1 << n; set++) {
            int bits = Integer.bitCount(set);
            if (bits > most || (set & barred) != 0) {
                continue;
            }
            int length = length(roads, barred | set, from, to);
            if (length > now || length == now && bits < Integer.bitCount(found)) {
                found = set;
                now = length;
            }
        }
        DUE.is("bars of run " + i, x.bars(from, to, most), found);
    }

    /** By growing the settled places one by one; the desk does it in rounds. */
    private static int length(int[][] roads, int barred, int from, int to) {
        int[] reach = new int[10];
        boolean[] settled = new boolean[10];
        java.util.Arrays.fill(reach, NO_WAY);
        reach[from] = 0;
        for (int step = 0; step < 10; step++) {
            int next = -1;
            for (int place = 0; place < 10; place++) {
                if (!settled[place] && (next < 0 || reach[place] < reach[next])) {
                    next = place;
                }
            }
            settled[next] = true;
            for (int r = 0; r < roads.length; r++) {
                if (roads[r][0] == next && (barred >> r & 1) == 0 && reach[next] < NO_WAY) {
                    reach[roads[r][1]] = Math.min(reach[roads[r][1]], reach[next] + roads[r][2]);
                }
            }
        }
        return reach[to];
    }
}
