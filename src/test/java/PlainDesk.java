import java.util.ArrayList;
import java.util.Arrays;
import java.util.HashMap;
import java.util.List;
import java.util.Map;
import java.util.TreeSet;

/**
 * The document put into code a second time, by trying all there is to try, so that long runs of
 * calls can be held against it. Its calls bear the names of the desk's.
 */
public final class PlainDesk {
    private record Target(int kind, int saved, int lost, int gain, int gap, int least, int most, int hand) {
        Target bound(int newLeast, int newMost) {
            return new Target(kind, saved, lost, gain, gap, newLeast, newMost, hand);
        }

        Target with(int newHand) {
            return new Target(kind, saved, lost, gain, gap, least, most, newHand);
        }

        Ratio thief(Ratio share) {
            return Ratio.of(gain).minus(share.times(Ratio.of(gap)));
        }

        Ratio keeper(Ratio share) {
            return Ratio.of(lost).plus(share.times(Ratio.of(saved - lost)));
        }
    }

    private record Road(int from, int to, int length, boolean barred) {
    }

    private record Haunt(int places, int weight) {
    }

    private record Plan(int goal, List<Ratio> shares) {
    }

    /** All that is kept; never changed in place but for its lists, which a copy has for itself. */
    private record State(List<Target> targets, int[] guards, List<Road> roads, List<Integer> posts,
            List<Haunt> haunts) {
        State() {
            this(new ArrayList<>(), new int[] {1}, new ArrayList<>(), new ArrayList<>(), new ArrayList<>());
        }

        State copy() {
            return new State(new ArrayList<>(targets), guards.clone(), new ArrayList<>(roads),
                new ArrayList<>(posts), new ArrayList<>(haunts));
        }
    }

    private static final int[] NO_WATCH = {};
    private static final Map<List<Integer>, int[]> WATCHES = new HashMap<>();

    private State now = new State();
    private State kept;
    private final int[][] sheets = new int[4][];
    private final int[] sorts = new int[4];
    private int findings;
    private long latestBelow = 1;

    public int target(int kind, int saved, int lost, int gain, int gap) {
        boolean known = Arrays.stream(Due.GAPS).anyMatch(one -> one == gap);
        boolean pays = isPay(saved) && isPay(lost) && isPay(gain);
        if (kind < 0 || kind > 3 || !known || !pays || lost > saved || now.targets.size() == 10) {
            return Due.BAD;
        }
        now.targets.add(new Target(kind, saved, lost, gain, gap, 0, kind == 1 ? 0 : 60, 0));
        return now.targets.size() - 1;
    }

    public int bounds(int t, int least, int most) {
        if (noTarget(t) || most < 0 || most > 60 || least < 0 || least > most) {
            return Due.BAD;
        }
        int kind = now.targets.get(t).kind;
        if (kind < 2) {
            return host(Due.SORT);
        }
        if (kind == 2 && least > 0) {
            return Due.BAD;
        }
        now.targets.set(t, now.targets.get(t).bound(least, most));
        return 1;
    }

    public int guards(int n) {
        int was = now.guards[0];
        if (n < 0 || n > 10) {
            return Due.BAD;
        }
        now.guards[0] = n;
        return was;
    }

    public int of(int t, int what) {
        if (noTarget(t) || what < 0 || what > 7) {
            return Due.BAD;
        }
        Target x = now.targets.get(t);
        return new int[] {x.kind, x.saved, x.lost, x.gain, x.gap, x.least, x.most, x.hand}[what];
    }

    public int drop() {
        if (now.targets.isEmpty()) {
            return host(Due.NOTHING);
        }
        now.targets.remove(now.targets.size() - 1);
        return now.targets.size();
    }

    public int best() {
        Plan plan = plan();
        return plan == null ? Due.NONE : plan.goal;
    }

    public int worth() {
        Plan plan = plan();
        return plan == null ? Due.NONE
            : told(now.targets.get(plan.goal).keeper(plan.shares.get(plan.goal)));
    }

    public int prize() {
        Plan plan = plan();
        return plan == null ? Due.NONE
            : told(now.targets.get(plan.goal).thief(plan.shares.get(plan.goal)));
    }

    public int share(int t) {
        if (noTarget(t)) {
            return Due.BAD;
        }
        Plan plan = plan();
        return plan == null ? Due.NONE : told(plan.shares.get(t));
    }

    public int below() {
        return (int) latestBelow;
    }

    public int put(int t, int v) {
        if (noTarget(t) || v < now.targets.get(t).least || v > now.targets.get(t).most) {
            return Due.BAD;
        }
        int was = now.targets.get(t).hand;
        now.targets.set(t, now.targets.get(t).with(v));
        return was;
    }

    public int spare() {
        return now.targets.stream().mapToInt(Target::hand).sum() - 60 * now.guards[0];
    }

    public int comes() {
        return now.targets.isEmpty() ? Due.NONE : goal(hand());
    }

    public int handWorth() {
        if (now.targets.isEmpty()) {
            return Due.NONE;
        }
        int goal = goal(hand());
        return told(now.targets.get(goal).keeper(hand().get(goal)));
    }

    public int errs(int e) {
        if (e < 0 || e > 3600) {
            return Due.BAD;
        }
        if (now.targets.isEmpty()) {
            return Due.NONE;
        }
        int goal = goal(hand());
        Ratio enough = now.targets.get(goal).thief(hand().get(goal)).minus(new Ratio(e, 60));
        Ratio worst = null;
        for (int t = 0; t < now.targets.size(); t++) {
            Target x = now.targets.get(t);
            Ratio worth = x.keeper(hand().get(t));
            if (x.thief(hand().get(t)).compare(enough) >= 0 && (worst == null || worth.compare(worst) < 0)) {
                worst = worth;
            }
        }
        return told(worst);
    }

    public int lots() {
        Plan plan = plan();
        return plan == null ? Due.NONE : cuts(plan).size() - 1;
    }

    public int team(int i) {
        Plan plan = plan();
        if (plan == null || i < 0 || i >= cuts(plan).size() - 1) {
            return Due.NONE;
        }
        Ratio z = cuts(plan).get(i).plus(cuts(plan).get(i + 1)).by(Ratio.of(2));
        int team = 0;
        Ratio begin = Ratio.of(0);
        for (int t = 0; t < plan.shares.size(); t++) {
            Ratio end = begin.plus(plan.shares.get(t));
            for (int whole = 0; whole <= 10; whole++) {
                Ratio place = z.plus(Ratio.of(whole));
                team |= begin.compare(place) <= 0 && place.compare(end) < 0 ? 1 << t : 0;
            }
            begin = end;
        }
        return team;
    }

    public int chance(int i) {
        Plan plan = plan();
        if (plan == null || i < 0 || i >= cuts(plan).size() - 1) {
            return Due.NONE;
        }
        return told(cuts(plan).get(i + 1).minus(cuts(plan).get(i)));
    }

    public int road(int from, int to, int length) {
        boolean places = !noPlace(from) && !noPlace(to) && from != to;
        if (!places || length < 1 || length > 100 || now.roads.size() == 16) {
            return Due.BAD;
        }
        now.roads.add(new Road(from, to, length, false));
        return now.roads.size() - 1;
    }

    public int bar(int r, boolean is) {
        if (r < 0 || r >= now.roads.size()) {
            return Due.BAD;
        }
        Road road = now.roads.get(r);
        now.roads.set(r, new Road(road.from, road.to, road.length, is));
        return road.barred ? 1 : 0;
    }

    public int shortest(int from, int to) {
        if (noPlace(from) || noPlace(to)) {
            return Due.BAD;
        }
        int length = length(from, to, 0);
        return length == Integer.MAX_VALUE ? Due.NONE : length;
    }

    public int bars(int from, int to, int n) {
        if (noPlace(from) || noPlace(to) || n < 0 || n > 4) {
            return Due.BAD;
        }
        int found = 0;
        int longest = length(from, to, 0);
        for (int bits = 1; bits <= n; bits++) {
            for (int set = 0; set < 1 << now.roads.size(); set++) {
                boolean is = Integer.bitCount(set) == bits && (set & barred()) == 0;
                if (is && length(from, to, set) > longest) {
                    longest = length(from, to, set);
                    found = set;
                }
            }
        }
        return found;
    }

    public int post(int every) {
        if (every < 1 || every > 8 || now.posts.size() == 5) {
            return Due.BAD;
        }
        now.posts.add(every);
        return now.posts.size() - 1;
    }

    public int every(int p, int every) {
        if (p < 0 || p >= now.posts.size() || every < 1 || every > 8) {
            return Due.BAD;
        }
        return now.posts.set(p, every);
    }

    public int visit(int tick) {
        if (tick < 0 || tick > 1000) {
            return Due.BAD;
        }
        if (now.posts.isEmpty()) {
            return host(Due.NOTHING);
        }
        int[] watch = WATCHES.computeIfAbsent(List.copyOf(now.posts), posts -> {
            int[] found = WatchTest.watch(posts.stream().mapToInt(one -> one).toArray());
            return found == null ? NO_WATCH : found;
        });
        return watch == NO_WATCH ? Due.NONE : watch[tick];
    }

    public int haunt(int places, int weight) {
        if (places < 1 || places > 1023 || weight < 1 || weight > 1000 || now.haunts.size() == 20) {
            return Due.BAD;
        }
        now.haunts.add(new Haunt(places, weight));
        return now.haunts.size() - 1;
    }

    public int caught(int places) {
        if (places < 0 || places > 1023) {
            return Due.BAD;
        }
        return now.haunts.stream().filter(h -> (h.places & places) != 0).mapToInt(Haunt::weight).sum();
    }

    public int traps(int n) {
        if (n < 0 || n > 10) {
            return Due.BAD;
        }
        int found = 0;
        for (int bits = 1; bits <= n; bits++) {
            for (int set = 0; set < 1024; set++) {
                if (Integer.bitCount(set) == bits && caught(set) > caught(found)) {
                    found = set;
                }
            }
        }
        return found;
    }

    public int cover() {
        for (int bits = 0; bits <= 10; bits++) {
            for (int set = 0; set < 1024; set++) {
                if (Integer.bitCount(set) == bits && caught(set) == caught(1023)) {
                    return set;
                }
            }
        }
        return -1;
    }

    public int sheet(int s, int sort, int n) {
        if (s < 0 || s > 3 || sort < 0 || sort > 2 || n > 40) {
            return Due.BAD;
        }
        if (n < 0) {
            return host(Due.SIZE);
        }
        sheets[s] = new int[n];
        sorts[s] = sort;
        return n;
    }

    public int write(int s, int i, int v) {
        if (s < 0 || s > 3) {
            return Due.BAD;
        }
        if (sheets[s] == null) {
            return host(Due.NOTHING);
        }
        if (i < 0 || i >= sheets[s].length) {
            return host(Due.PLACE);
        }
        int was = sheets[s][i];
        int[] narrowed = {(byte) v, (short) v, v};
        sheets[s][i] = narrowed[sorts[s]];
        return was;
    }

    public int handFrom(int s, int sort, int i) {
        if (s < 0 || s > 3 || sort < 0 || sort > 2) {
            return Due.BAD;
        }
        if (sheets[s] == null) {
            return host(Due.NOTHING);
        }
        if (sorts[s] != sort) {
            return host(Due.SORT);
        }
        int n = now.targets.size();
        if (n > 0 && (i < 0 || (long) i + n > sheets[s].length)) {
            return host(Due.PLACE);
        }
        int outside = 0;
        for (int t = 0; t < n; t++) {
            Target x = now.targets.get(t);
            int v = sheets[s][i + t];
            outside += v < x.least || v > x.most ? 1 : 0;
            now.targets.set(t, x.with(v < x.least ? x.least : v > x.most ? x.most : v));
        }
        return outside;
    }

    public int keep() {
        kept = now.copy();
        return now.targets.size();
    }

    public int back() {
        if (kept == null) {
            return host(Due.NOTHING);
        }
        now = kept.copy();
        return now.targets.size();
    }

    public int count(int what) {
        int[] counts = {now.targets.size(), now.guards[0], now.roads.size(), Integer.bitCount(barred()),
            now.posts.size(), now.haunts.size(), findings};
        return what < 0 || what > 6 ? Due.BAD : counts[what];
    }

    private int host(int finding) {
        findings++;
        return finding;
    }

    private int told(Ratio ratio) {
        latestBelow = ratio.below();
        return (int) ratio.above();
    }

    private static boolean isPay(int v) {
        return v >= -60 && v <= 60;
    }

    private boolean noTarget(int t) {
        return t < 0 || t >= now.targets.size();
    }

    private static boolean noPlace(int place) {
        return place < 0 || place > 9;
    }

    private List<Ratio> hand() {
        return now.targets.stream().map(x -> new Ratio(x.hand, 60)).toList();
    }

    private int goal(List<Ratio> shares) {
        int goal = 0;
        for (int t = 1; t < shares.size(); t++) {
            Target x = now.targets.get(t);
            Target g = now.targets.get(goal);
            int more = x.thief(shares.get(t)).compare(g.thief(shares.get(goal)));
            int dearer = x.keeper(shares.get(t)).compare(g.keeper(shares.get(goal)));
            goal = more > 0 || more == 0 && dearer > 0 ? t : goal;
        }
        return goal;
    }

    /** The best plan among those that stand at a level where something comes to its end. */
    private Plan plan() {
        Plan best = null;
        for (Ratio level : levels()) {
            List<Ratio> shares = new ArrayList<>();
            boolean fits = true;
            boolean reached = false;
            Ratio left = Ratio.of(now.guards[0]);
            for (Target x : now.targets) {
                Ratio least = new Ratio(x.least, 60);
                Ratio share = Ratio.of(x.gain).minus(level).by(Ratio.of(x.gap)).max(least);
                fits &= share.compare(new Ratio(x.most, 60)) <= 0;
                reached |= x.thief(share).compare(level) == 0;
                left = left.minus(share);
                shares.add(share);
            }
            if (fits && reached && left.compare(Ratio.of(0)) >= 0) {
                Plan plan = new Plan(goal(shares), shares);
                best = best == null || isBetter(plan, best) ? plan : best;
            }
        }
        return best;
    }

    private boolean isBetter(Plan a, Plan b) {
        Ratio shareA = a.shares.get(a.goal);
        Ratio shareB = b.shares.get(b.goal);
        int more = now.targets.get(a.goal).keeper(shareA).compare(now.targets.get(b.goal).keeper(shareB));
        if (more != 0 || a.goal != b.goal) {
            return more > 0 || more == 0 && a.goal < b.goal;
        }
        return shareA.compare(shareB) > 0;
    }

    private List<Ratio> levels() {
        List<Ratio> levels = new ArrayList<>();
        for (Target x : now.targets) {
            levels.add(x.thief(new Ratio(x.least, 60)));
            levels.add(x.thief(new Ratio(x.most, 60)));
        }
        List<Ratio> peaks = now.targets.stream().map(x -> x.thief(new Ratio(x.least, 60))).toList();
        for (Ratio from : peaks) {
            Ratio above = Ratio.of(-now.guards[0]);
            Ratio slopes = Ratio.of(0);
            for (int t = 0; t < peaks.size(); t++) {
                Target x = now.targets.get(t);
                boolean held = peaks.get(t).compare(from) >= 0;
                above = above.plus(held ? new Ratio(x.gain, x.gap) : new Ratio(x.least, 60));
                slopes = slopes.plus(held ? new Ratio(1, x.gap) : Ratio.of(0));
            }
            levels.add(above.by(slopes));
        }
        return levels;
    }

    private static List<Ratio> cuts(Plan plan) {
        TreeSet<Ratio> cuts = new TreeSet<>(Ratio::compare);
        cuts.add(Ratio.of(0));
        cuts.add(Ratio.of(1));
        Ratio end = Ratio.of(0);
        for (Ratio share : plan.shares) {
            end = end.plus(share);
            cuts.add(new Ratio(end.above() % end.below(), end.below()));
        }
        return new ArrayList<>(cuts);
    }

    private int barred() {
        int set = 0;
        for (int r = 0; r < now.roads.size(); r++) {
            set |= now.roads.get(r).barred ? 1 << r : 0;
        }
        return set;
    }

    private int length(int from, int to, int barredToo) {
        int[] reach = new int[10];
        Arrays.fill(reach, Integer.MAX_VALUE);
        reach[from] = 0;
        for (int round = 0; round < 9; round++) {
            for (int r = 0; r < now.roads.size(); r++) {
                Road road = now.roads.get(r);
                if (!road.barred && (barredToo >> r & 1) == 0 && reach[road.from] < Integer.MAX_VALUE) {
                    reach[road.to] = Math.min(reach[road.to], reach[road.from] + road.length);
                }
            }
        }
        return reach[to];
    }
}
