import java.util.Random;

/** Targets and guards known to a test as well as to a desk, with the definitions of paragraph 1. */
final class Setting {
    final int n;
    final int guards;
    final int[] saved;
    final int[] lost;
    final int[] gain;
    final int[] gap;
    final int[] least;
    final int[] most;
    final GuardDesk desk = new GuardDesk();

    /** Small pays make for many ties. */
    Setting(Random random, int n, int pay, int grain) {
        this.n = n;
        guards = random.nextInt(8) == 0 ? random.nextInt(11) : random.nextInt(4);
        saved = new int[n];
        lost = new int[n];
        gain = new int[n];
        gap = new int[n];
        least = new int[n];
        most = new int[n];
        desk.guards(guards);
        for (int t = 0; t < n; t++) {
            lost[t] = random.nextInt(2 * pay + 1) - pay;
            saved[t] = lost[t] + random.nextInt(pay - lost[t] + 1);
            gain[t] = random.nextInt(2 * pay + 1) - pay;
            gap[t] = Due.GAPS[random.nextInt(pay < 10 ? 5 : 12)];
            int kind = random.nextInt(6) > 3 ? 0 : random.nextInt(4);
            most[t] = kind == 1 ? 0 : 60;
            desk.target(kind, saved[t], lost[t], gain[t], gap[t]);
            if (kind >= 2) {
                most[t] = grain * random.nextInt(60 / grain + 1);
                least[t] = kind == 3 ? Math.min(most[t], grain * random.nextInt(60 / grain + 1)) : 0;
                desk.bounds(t, least[t], most[t]);
            }
        }
    }

    Ratio thief(int t, Ratio share) {
        return Ratio.of(gain[t]).minus(share.times(Ratio.of(gap[t])));
    }

    Ratio keeper(int t, Ratio share) {
        return Ratio.of(lost[t]).plus(share.times(Ratio.of(saved[t] - lost[t])));
    }

    int goal(Ratio[] shares) {
        int goal = 0;
        for (int t = 1; t < n; t++) {
            int more = thief(t, shares[t]).compare(thief(goal, shares[goal]));
            if (more == 0) {
                more = keeper(t, shares[t]).compare(keeper(goal, shares[goal]));
            }
            if (more > 0) {
                goal = t;
            }
        }
        return goal;
    }

    boolean isPlan(Ratio[] shares) {
        Ratio sum = Ratio.of(0);
        boolean fits = true;
        for (int t = 0; t < n; t++) {
            sum = sum.plus(shares[t]);
            fits &= shares[t].compare(new Ratio(least[t], 60)) >= 0
                && shares[t].compare(new Ratio(most[t], 60)) <= 0;
        }
        return fits && sum.compare(Ratio.of(guards)) <= 0;
    }

    boolean hasPlan() {
        int sum = 0;
        for (int one : least) {
            sum += one;
        }
        return n > 0 && sum <= 60 * guards;
    }

    /** The shares that the desk tells. */
    Ratio[] told() {
        Ratio[] shares = new Ratio[n];
        for (int t = 0; t < n; t++) {
            int above = desk.share(t);
            shares[t] = new Ratio(above, desk.below());
        }
        return shares;
    }

    String text() {
        StringBuilder b = new StringBuilder("guards " + guards);
        for (int t = 0; t < n; t++) {
            b.append(" [").append(saved[t]).append(' ').append(lost[t]).append(' ').append(gain[t]);
            b.append(' ').append(gap[t]).append(' ').append(least[t]).append(' ').append(most[t]);
            b.append(']');
        }
        return b.toString();
    }
}
