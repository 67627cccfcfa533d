import java.util.Random;
import java.util.TreeMap;

/** Promises 17 to 19: lots, team, chance. */
public final class LotsTest {
    private static final Due DUE = new Due("LotsTest");

    public static void main(String[] args) {
        none();
        whole();
        told();
        Random random = new Random(13);
        for (int i = 0; i < 2000; i++) {
            int n = 1 + random.nextInt(i % 4 == 0 ? 10 : 4);
            againstDefinitions(new Setting(random, n, i % 2 == 0 ? 60 : 5, i % 3 == 0 ? 15 : 1));
        }
        DUE.end();
    }

    private static void none() {
        GuardDesk x = new GuardDesk();
        DUE.is("lots() without targets", x.lots(), Due.NONE);
        DUE.is("team(0) without targets", x.team(0), Due.NONE);
        DUE.is("chance(0) without targets", x.chance(0), Due.NONE);
        x.target(3, 1, 0, 1, 1);
        x.bounds(0, 1, 1);
        x.guards(0);
        DUE.is("lots() without a plan", x.lots(), Due.NONE);
        DUE.is("team(0) without a plan", x.team(0), Due.NONE);
        DUE.is("chance(0) without a plan", x.chance(0), Due.NONE);
        DUE.is("count(6)", x.count(6), 0);
    }

    private static void whole() {
        GuardDesk x = new GuardDesk();
        x.target(0, 1, 0, 1, 1);
        x.target(0, 1, 0, 1, 1);
        x.guards(2);
        DUE.is("lots() of whole shares", x.lots(), 1);
        DUE.is("team(0) of whole shares", x.team(0), 3);
        DUE.fraction("chance(0) of whole shares", x, x.chance(0), 1, 1);
        DUE.is("team(1) of whole shares", x.team(1), Due.NONE);
        DUE.is("chance(1) of whole shares", x.chance(1), Due.NONE);
        DUE.is("team(-1) of whole shares", x.team(-1), Due.NONE);
        for (int far : Due.FAR) {
            DUE.is("team(far)", x.team(far), Due.NONE);
            DUE.is("chance(far)", x.chance(far), Due.NONE);
        }
    }

    private static void told() {
        // Shares 3/5 each of five alike and three guards: ends at 3/5, 6/5, 9/5, 12/5, 3.
        GuardDesk x = new GuardDesk();
        for (int t = 0; t < 5; t++) {
            x.target(0, 1, 0, 10, 10);
        }
        x.guards(3);
        DUE.fraction("share(0)", x, x.share(0), 3, 5);
        DUE.is("lots()", x.lots(), 5);
        int[] teams = new int[5];
        // z in 0 .. 1/5: places z (target 0), z + 1 (1), z + 2 (3).
        teams[0] = 0b01011;
        // z in 1/5 .. 2/5: z (0), z + 1 (2), z + 2 (3).
        teams[1] = 0b01101;
        // z in 2/5 .. 3/5: z (0), z + 1 (2), z + 2 (4).
        teams[2] = 0b10101;
        // z in 3/5 .. 4/5: z (1), z + 1 (2), z + 2 (4).
        teams[3] = 0b10110;
        // z in 4/5 .. 1: z (1), z + 1 (3), z + 2 (4).
        teams[4] = 0b11010;
        for (int i = 0; i < 5; i++) {
            DUE.is("team(" + i + ")", x.team(i), teams[i]);
            DUE.fraction("chance(" + i + ")", x, x.chance(i), 1, 5);
        }
        DUE.is("team(5)", x.team(5), Due.NONE);
        DUE.is("chance(5)", x.chance(5), Due.NONE);
    }

    private static void againstDefinitions(Setting s) {
        if (!s.hasPlan()) {
            DUE.is("lots() of " + s.text(), s.desk.lots(), Due.NONE);
            return;
        }
        Ratio[] shares = s.told();
        TreeMap<Ratio, Boolean> cuts = new TreeMap<>(Ratio::compare);
        cuts.put(Ratio.of(0), true);
        Ratio end = Ratio.of(0);
        for (Ratio share : shares) {
            end = end.plus(share);
            cuts.put(new Ratio(end.above() % end.below(), end.below()), true);
        }
        DUE.is("lots() of " + s.text(), s.desk.lots(), cuts.size());
        int i = 0;
        for (Ratio z : cuts.keySet()) {
            Ratio next = cuts.higherKey(z);
            Ratio chance = (next == null ? Ratio.of(1) : next).minus(z);
            DUE.is("team(" + i + ") of " + s.text(), s.desk.team(i), teamOf(shares, z));
            String call = "chance(" + i + ") of " + s.text();
            DUE.fraction(call, s.desk, s.desk.chance(i), chance.above(), chance.below());
            i++;
        }
        DUE.is("team past the last of " + s.text(), s.desk.team(i), Due.NONE);
        DUE.is("chance past the last of " + s.text(), s.desk.chance(i), Due.NONE);
    }

    private static int teamOf(Ratio[] shares, Ratio z) {
        int team = 0;
        Ratio begin = Ratio.of(0);
        for (int t = 0; t < shares.length; t++) {
            Ratio end = begin.plus(shares[t]);
            for (int whole = 0; whole <= 10; whole++) {
                Ratio place = z.plus(Ratio.of(whole));
                if (place.compare(begin) >= 0 && place.compare(end) < 0) {
                    team |= 1 << t;
                }
            }
            begin = end;
        }
        return team;
    }
}
