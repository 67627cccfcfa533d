import java.util.Arrays;

/**
 * A desk for guards and thieves: shares of few guards over targets, lots that draw teams, thieves
 * who err, roads to bar, watches in endless rounds and traps. Answers below -1000000000 are
 * findings; no call throws.
 */
public final class GuardDesk {
    private static final int BAD = -1000000002;
    private static final int NONE = -1000000003;
    private static final int NOTHING = -1000000010;
    private static final int PLACE = -1000000011;
    private static final int SORT = -1000000012;
    private static final int SIZE = -1000000013;

    private static final int KIND_TARGET = 0;
    private static final int KIND_OPEN = 1;
    private static final int KIND_WEAK = 2;
    private static final int KIND_KEPT = 3;

    private static final int SORT_BYTES = 0;
    private static final int SORT_SHORTS = 1;
    private static final int SORT_INTS = 2;

    private static final int SIXTY = 60;
    private static final int MAX_PAY = 60;
    private static final int MAX_GUARDS = 10;
    private static final int MAX_TARGETS = 10;
    private static final int MAX_ERROR = 3600;
    private static final int PLACES = 10;
    private static final int ALL_PLACES = 1023;
    private static final int MAX_ROADS = 16;
    private static final int MAX_LENGTH = 100;
    private static final int MAX_BARS = 4;
    private static final int NO_WAY = 1000000;
    private static final int MAX_POSTS = 5;
    private static final int MAX_EVERY = 8;
    private static final int MAX_TICK = 1000;
    private static final int MAX_HAUNTS = 20;
    private static final int MAX_WEIGHT = 1000;
    private static final int SHEETS = 4;
    private static final int MAX_SHEET = 40;

    private final Scene now = new Scene();
    private final Scene kept = new Scene();
    private final Sheets sheets = new Sheets();
    private final Plan plan = new Plan();
    private final Draw draw = new Draw();
    private final Blockade blockade = new Blockade();
    private final Watch watch = new Watch();
    private boolean isKept;
    private int latestBelow = 1;
    private int findings;

    public GuardDesk() {
    }

    // ---- targets

    public int target(int kind, int saved, int lost, int gain, int gap) {
        boolean known = isFrom(kind, KIND_TARGET, KIND_KEPT) && isGap(gap);
        boolean payable = isPay(saved) && isPay(lost) && isPay(gain) && lost <= saved;
        if (!known || !payable || now.targets.size >= MAX_TARGETS) {
            return BAD;
        }
        return now.targets.add(kind, saved, lost, gain, gap);
    }

    public int bounds(int t, int least, int most) {
        Targets targets = now.targets;
        if (!targets.has(t) || !isFrom(most, 0, SIXTY) || !isFrom(least, 0, most)) {
            return BAD;
        }
        int kind = targets.kind[t];
        if (kind != KIND_WEAK && kind != KIND_KEPT) {
            return hostFinding(SORT);
        }
        if (kind == KIND_WEAK && least != 0) {
            return BAD;
        }
        targets.least[t] = least;
        targets.most[t] = most;
        return 1;
    }

    public int guards(int n) {
        if (!isFrom(n, 0, MAX_GUARDS)) {
            return BAD;
        }
        int before = now.targets.guards;
        now.targets.guards = n;
        return before;
    }

    public int of(int t, int what) {
        Targets targets = now.targets;
        if (!targets.has(t)) {
            return BAD;
        }
        switch (what) {
            case 0: return targets.kind[t];
            case 1: return targets.saved[t];
            case 2: return targets.lost[t];
            case 3: return targets.gain[t];
            case 4: return targets.gap[t];
            case 5: return targets.least[t];
            case 6: return targets.most[t];
            case 7: return targets.hand[t];
            default: return BAD;
        }
    }

    public int drop() {
        if (now.targets.size <= 0) {
            return hostFinding(NOTHING);
        }
        now.targets.size--;
        return now.targets.size;
    }

    // ---- the best plan

    public int best() {
        return plan.make(now.targets) ? plan.goal : NONE;
    }

    public int worth() {
        if (!plan.make(now.targets)) {
            return NONE;
        }
        return fraction(plan.keeperParts(now.targets, plan.goal), plan.unit);
    }

    public int prize() {
        if (!plan.make(now.targets)) {
            return NONE;
        }
        return fraction(plan.levelAbove, SIXTY * plan.levelBelow);
    }

    public int share(int t) {
        if (!now.targets.has(t)) {
            return BAD;
        }
        if (!plan.make(now.targets)) {
            return NONE;
        }
        return fraction(plan.parts[t], plan.unit);
    }

    public int below() {
        return latestBelow;
    }

    // ---- the hand

    public int put(int t, int v) {
        Targets targets = now.targets;
        if (!targets.has(t) || !isFrom(v, targets.least[t], targets.most[t])) {
            return BAD;
        }
        int before = targets.hand[t];
        targets.hand[t] = v;
        return before;
    }

    public int spare() {
        Targets targets = now.targets;
        int sum = 0;
        for (int t = 0; t < targets.size; t++) {
            sum += targets.hand[t];
        }
        return sum - SIXTY * targets.guards;
    }

    public int comes() {
        return now.targets.size == 0 ? NONE : now.targets.goalByHand();
    }

    public int handWorth() {
        if (now.targets.size == 0) {
            return NONE;
        }
        return fraction(now.targets.keeperByHand(now.targets.goalByHand()), SIXTY);
    }

    public int errs(int e) {
        if (!isFrom(e, 0, MAX_ERROR)) {
            return BAD;
        }
        if (now.targets.size == 0) {
            return NONE;
        }
        return fraction(now.targets.worstByHand(e), SIXTY);
    }

    // ---- lots

    public int lots() {
        return makeDraw() ? draw.size : NONE;
    }

    public int team(int i) {
        if (!makeDraw() || !isFrom(i, 0, draw.size - 1)) {
            return NONE;
        }
        return draw.membersAt(plan, draw.cuts[i]);
    }

    public int chance(int i) {
        if (!makeDraw() || !isFrom(i, 0, draw.size - 1)) {
            return NONE;
        }
        return fraction(draw.cuts[i + 1] - draw.cuts[i], plan.unit);
    }

    // ---- roads

    public int road(int from, int to, int length) {
        boolean places = isPlace(from) && isPlace(to) && from != to;
        if (!places || !isFrom(length, 1, MAX_LENGTH) || now.roads.size >= MAX_ROADS) {
            return BAD;
        }
        return now.roads.add(from, to, length);
    }

    public int bar(int r, boolean is) {
        Roads roads = now.roads;
        if (!isFrom(r, 0, roads.size - 1)) {
            return BAD;
        }
        int bit = 1 << r;
        int before = (roads.barred & bit) != 0 ? 1 : 0;
        roads.barred = is ? roads.barred | bit : roads.barred & ~bit;
        return before;
    }

    public int shortest(int from, int to) {
        if (!isPlace(from) || !isPlace(to)) {
            return BAD;
        }
        int length = now.roads.measure(from, to, 0);
        return length >= NO_WAY ? NONE : length;
    }

    public int bars(int from, int to, int n) {
        if (!isPlace(from) || !isPlace(to) || !isFrom(n, 0, MAX_BARS)) {
            return BAD;
        }
        return blockade.find(now.roads, from, to, n);
    }

    // ---- watches

    public int post(int every) {
        if (!isFrom(every, 1, MAX_EVERY) || now.posts.size >= MAX_POSTS) {
            return BAD;
        }
        return now.posts.add(every);
    }

    public int every(int p, int every) {
        if (!isFrom(p, 0, now.posts.size - 1) || !isFrom(every, 1, MAX_EVERY)) {
            return BAD;
        }
        int before = now.posts.every[p];
        now.posts.every[p] = every;
        return before;
    }

    public int visit(int tick) {
        if (!isFrom(tick, 0, MAX_TICK)) {
            return BAD;
        }
        if (now.posts.size == 0) {
            return hostFinding(NOTHING);
        }
        watch.make(now.posts);
        return watch.postAt(tick);
    }

    // ---- traps

    public int haunt(int places, int weight) {
        boolean known = isFrom(places, 1, ALL_PLACES) && isFrom(weight, 1, MAX_WEIGHT);
        if (!known || now.haunts.size >= MAX_HAUNTS) {
            return BAD;
        }
        return now.haunts.add(places, weight);
    }

    public int caught(int places) {
        return isFrom(places, 0, ALL_PLACES) ? now.haunts.weightCaught(places) : BAD;
    }

    public int traps(int n) {
        return isFrom(n, 0, PLACES) ? now.haunts.heaviestSet(n) : BAD;
    }

    public int cover() {
        return now.haunts.smallestCover();
    }

    // ---- sheets, the whole

    public int sheet(int s, int sort, int n) {
        if (!isSheet(s) || !isSort(sort) || n > MAX_SHEET) {
            return BAD;
        }
        if (n < 0) {
            return hostFinding(SIZE);
        }
        sheets.renew(s, sort, n);
        return n;
    }

    public int write(int s, int i, int v) {
        if (!isSheet(s)) {
            return BAD;
        }
        if (sheets.isMissing(s)) {
            return hostFinding(NOTHING);
        }
        if (!isFrom(i, 0, sheets.size[s] - 1)) {
            return hostFinding(PLACE);
        }
        return sheets.replace(s, i, v);
    }

    public int handFrom(int s, int sort, int i) {
        if (!isSheet(s) || !isSort(sort)) {
            return BAD;
        }
        if (sheets.isMissing(s)) {
            return hostFinding(NOTHING);
        }
        if (sheets.sort[s] != sort) {
            return hostFinding(SORT);
        }
        int size = now.targets.size;
        if (size > 0 && !isFrom(i, 0, sheets.size[s] - size)) {
            return hostFinding(PLACE);
        }
        int outside = 0;
        for (int t = 0; t < size; t++) {
            outside += now.targets.putNearest(t, sheets.numbers[s][i + t]);
        }
        return outside;
    }

    public int keep() {
        kept.copyFrom(now);
        isKept = true;
        return now.targets.size;
    }

    public int back() {
        if (!isKept) {
            return hostFinding(NOTHING);
        }
        now.copyFrom(kept);
        return now.targets.size;
    }

    public int count(int what) {
        switch (what) {
            case 0: return now.targets.size;
            case 1: return now.targets.guards;
            case 2: return now.roads.size;
            case 3: return Integer.bitCount(now.roads.barred);
            case 4: return now.posts.size;
            case 5: return now.haunts.size;
            case 6: return findings;
            default: return BAD;
        }
    }

    private int hostFinding(int finding) {
        findings++;
        return finding;
    }

    /** Answers a fraction's upper part in lowest terms and leaves the lower one for below(). */
    private int fraction(long above, long below) {
        long divisor = commonDivisor(above, below);
        if (divisor <= 0) {
            return BAD;
        }
        latestBelow = (int) (below / divisor);
        return (int) (above / divisor);
    }

    private boolean makeDraw() {
        if (!plan.make(now.targets)) {
            return false;
        }
        draw.make(plan);
        return true;
    }

    private static long commonDivisor(long a, long b) {
        long big = Math.abs(a);
        long small = Math.abs(b);
        // Each two steps halve the numbers, so 200 steps are more than longs can need.
        for (int step = 0; step < 200 && small != 0; step++) {
            long rest = big % small;
            big = small;
            small = rest;
        }
        return big;
    }

    private static boolean isFrom(int v, int least, int most) {
        return v >= least && v <= most;
    }

    private static boolean isPay(int v) {
        return isFrom(v, -MAX_PAY, MAX_PAY);
    }

    /** The gaps that the document lists are just the divisors of 60. */
    private static boolean isGap(int gap) {
        return isFrom(gap, 1, SIXTY) && SIXTY % gap == 0;
    }

    private static boolean isPlace(int place) {
        return isFrom(place, 0, PLACES - 1);
    }

    private static boolean isSheet(int s) {
        return isFrom(s, 0, SHEETS - 1);
    }

    private static boolean isSort(int sort) {
        return isFrom(sort, SORT_BYTES, SORT_INTS);
    }

    /** All that keep() keeps. */
    private static final class Scene {
        final Targets targets = new Targets();
        final Roads roads = new Roads();
        final Posts posts = new Posts();
        final Haunts haunts = new Haunts();

        void copyFrom(Scene other) {
            targets.copyFrom(other.targets);
            roads.copyFrom(other.roads);
            posts.copyFrom(other.posts);
            haunts.copyFrom(other.haunts);
        }
    }

    /** The targets, the guards and the hand. What targets are worth by the hand is in sixtieths. */
    private static final class Targets {
        int size;
        int guards = 1;
        final int[] kind = new int[MAX_TARGETS];
        final int[] saved = new int[MAX_TARGETS];
        final int[] lost = new int[MAX_TARGETS];
        final int[] gain = new int[MAX_TARGETS];
        final int[] gap = new int[MAX_TARGETS];
        final int[] least = new int[MAX_TARGETS];
        final int[] most = new int[MAX_TARGETS];
        final int[] hand = new int[MAX_TARGETS];

        boolean has(int t) {
            return isFrom(t, 0, size - 1);
        }

        int add(int newKind, int newSaved, int newLost, int newGain, int newGap) {
            int t = size;
            kind[t] = newKind;
            saved[t] = newSaved;
            lost[t] = newLost;
            gain[t] = newGain;
            gap[t] = newGap;
            least[t] = 0;
            most[t] = newKind == KIND_OPEN ? 0 : SIXTY;
            hand[t] = 0;
            size++;
            return t;
        }

        void copyFrom(Targets other) {
            size = other.size;
            guards = other.guards;
            System.arraycopy(other.kind, 0, kind, 0, MAX_TARGETS);
            System.arraycopy(other.saved, 0, saved, 0, MAX_TARGETS);
            System.arraycopy(other.lost, 0, lost, 0, MAX_TARGETS);
            System.arraycopy(other.gain, 0, gain, 0, MAX_TARGETS);
            System.arraycopy(other.gap, 0, gap, 0, MAX_TARGETS);
            System.arraycopy(other.least, 0, least, 0, MAX_TARGETS);
            System.arraycopy(other.most, 0, most, 0, MAX_TARGETS);
            System.arraycopy(other.hand, 0, hand, 0, MAX_TARGETS);
        }

        /** Puts what is within the bounds and nearest to v: 1 if that is not v itself, else 0. */
        int putNearest(int t, int v) {
            hand[t] = Math.max(least[t], Math.min(most[t], v));
            return hand[t] == v ? 0 : 1;
        }

        int thiefByHand(int t) {
            return SIXTY * gain[t] - hand[t] * gap[t];
        }

        int keeperByHand(int t) {
            return SIXTY * lost[t] + hand[t] * (saved[t] - lost[t]);
        }

        int goalByHand() {
            int goal = 0;
            for (int t = 1; t < size; t++) {
                int more = thiefByHand(t) - thiefByHand(goal);
                if (more > 0 || more == 0 && keeperByHand(t) > keeperByHand(goal)) {
                    goal = t;
                }
            }
            return goal;
        }

        int worstByHand(int error) {
            int goal = goalByHand();
            int enough = thiefByHand(goal) - error;
            int worst = keeperByHand(goal);
            for (int t = 0; t < size; t++) {
                if (thiefByHand(t) >= enough) {
                    worst = Math.min(worst, keeperByHand(t));
                }
            }
            return worst;
        }
    }

    /**
     * The best plan. No plan can bring what is worth most to the thief below a certain level: the
     * lowest at which the shares that hold every target down to it keep to their bounds and to the
     * guards. More of a share never harms the keeper, so the best plan stands at this level,
     * whichever target the thief then comes to.
     */
    private static final class Plan {
        /** The level in sixtieths is levelAbove / levelBelow; shares are parts of unit. */
        long levelAbove;
        long levelBelow = 1;
        long unit = 1;
        int size;
        int goal;
        final long[] parts = new long[MAX_TARGETS];

        /** False: there is no plan. */
        boolean make(Targets targets) {
            int spare = SIXTY * targets.guards;
            for (int t = 0; t < targets.size; t++) {
                spare -= targets.least[t];
            }
            if (targets.size == 0 || spare < 0) {
                return false;
            }
            size = targets.size;
            findLevel(targets, spare);
            unit = SIXTY * SIXTY * levelBelow;
            for (int t = 0; t < size; t++) {
                long held = Math.max(0, peak(targets, t) * levelBelow - levelAbove);
                parts[t] = targets.least[t] * SIXTY * levelBelow + slope(targets, t) * held;
            }
            goal = findGoal(targets);
            return true;
        }

        /** What a target is worth to the keeper, in parts of unit. */
        long keeperParts(Targets targets, int t) {
            return targets.lost[t] * unit + (targets.saved[t] - targets.lost[t]) * parts[t];
        }

        /** What a target is worth to the thief, in sixtieths, with no more than its least share. */
        private static long peak(Targets targets, int t) {
            return SIXTY * targets.gain[t] - targets.gap[t] * targets.least[t];
        }

        /** How many sixtieths of a guard lower what a target is worth to the thief by one. */
        private static long slope(Targets targets, int t) {
            int gap = targets.gap[t];
            return gap <= 0 ? 0 : SIXTY / gap;
        }

        private void findLevel(Targets targets, int spare) {
            levelAbove = SIXTY * targets.gain[0] - targets.gap[0] * targets.most[0];
            levelBelow = 1;
            for (int t = 1; t < targets.size; t++) {
                long floor = SIXTY * targets.gain[t] - targets.gap[t] * targets.most[t];
                levelAbove = Math.max(levelAbove, floor);
            }
            for (int t = 0; t < targets.size; t++) {
                raiseLevel(targets, spare, peak(targets, t));
            }
        }

        /** The targets that peak at from or above can't all be held below the level got here. */
        private void raiseLevel(Targets targets, int spare, long from) {
            long above = -SIXTY * (long) spare;
            long below = 0;
            for (int t = 0; t < targets.size; t++) {
                long peak = peak(targets, t);
                if (peak >= from) {
                    above += slope(targets, t) * peak;
                    below += slope(targets, t);
                }
            }
            if (below > 0 && above * levelBelow > levelAbove * below) {
                levelAbove = above;
                levelBelow = below;
            }
        }

        /** Of the targets that stand at the level, the one that is worth most to the keeper. */
        private int findGoal(Targets targets) {
            int found = -1;
            for (int t = 0; t < size; t++) {
                boolean reached = peak(targets, t) * levelBelow >= levelAbove;
                if (reached && (found < 0 || keeperParts(targets, t) > keeperParts(targets, found))) {
                    found = t;
                }
            }
            return Math.max(found, 0);
        }
    }

    /** The lots of a plan: lot i lies between cuts i and i + 1, in parts of the plan's unit. */
    private static final class Draw {
        int size;
        final long[] cuts = new long[MAX_TARGETS + 2];

        void make(Plan plan) {
            size = 1;
            cuts[0] = 0;
            long end = 0;
            for (int t = 0; t < plan.size; t++) {
                end += plan.parts[t];
                addCut(restOf(end, plan.unit));
            }
            cuts[size] = plan.unit;
        }

        /** The targets that have z, or z and some whole guards, in their shares. */
        int membersAt(Plan plan, long z) {
            int members = 0;
            long begin = 0;
            for (int t = 0; t < plan.size; t++) {
                long end = begin + plan.parts[t];
                long place = begin - restOf(begin, plan.unit) + z;
                if (place < begin) {
                    place += plan.unit;
                }
                if (place < end) {
                    members |= 1 << t;
                }
                begin = end;
            }
            return members;
        }

        private static long restOf(long place, long unit) {
            return unit <= 0 ? 0 : place % unit;
        }

        private void addCut(long cut) {
            int i = 0;
            while (i < size && cuts[i] < cut) {
                i++;
            }
            if (i < size && cuts[i] == cut) {
                return;
            }
            for (int j = size; j > i; j--) {
                cuts[j] = cuts[j - 1];
            }
            cuts[i] = cut;
            size++;
        }
    }

    /** The roads; which of them are barred is told as bits. */
    private static final class Roads {
        int size;
        int barred;
        final int[] from = new int[MAX_ROADS];
        final int[] to = new int[MAX_ROADS];
        final int[] length = new int[MAX_ROADS];
        private final int[] reach = new int[PLACES];
        private final int[] lastRoad = new int[PLACES];

        int add(int newFrom, int newTo, int newLength) {
            int r = size;
            from[r] = newFrom;
            to[r] = newTo;
            length[r] = newLength;
            size++;
            return r;
        }

        void copyFrom(Roads other) {
            size = other.size;
            barred = other.barred;
            System.arraycopy(other.from, 0, from, 0, MAX_ROADS);
            System.arraycopy(other.to, 0, to, 0, MAX_ROADS);
            System.arraycopy(other.length, 0, length, 0, MAX_ROADS);
        }

        /** The length of the shortest way with more roads barred, NO_WAY without one. */
        int measure(int start, int end, int barredToo) {
            Arrays.fill(reach, NO_WAY);
            Arrays.fill(lastRoad, -1);
            reach[start] = 0;
            int usable = ~(barred | barredToo);
            boolean better = true;
            for (int round = 0; round < PLACES && better; round++) {
                better = relax(usable);
            }
            return reach[end];
        }

        /** The roads of the way that was measured last, as bits. */
        int wayTo(int end) {
            int way = 0;
            int place = end;
            for (int step = 0; step < PLACES && lastRoad[place] >= 0; step++) {
                int r = lastRoad[place];
                way |= 1 << r;
                place = from[r];
            }
            return way;
        }

        private boolean relax(int usable) {
            boolean better = false;
            for (int r = 0; r < size; r++) {
                int sum = reach[from[r]] + length[r];
                if ((usable >> r & 1) != 0 && sum < reach[to[r]]) {
                    reach[to[r]] = sum;
                    lastRoad[to[r]] = r;
                    better = true;
                }
            }
            return better;
        }
    }

    /** The search for the roads to bar. */
    private static final class Blockade {
        private int start;
        private int end;
        private int found;
        private int foundLength;

        int find(Roads roads, int from, int to, int n) {
            start = from;
            end = to;
            found = 0;
            foundLength = -1;
            search(roads, 0, 0, n);
            return found;
        }

        /**
         * Only a road of the shortest way is worth barring next: a set that has none of these leaves
         * that way. Roads in spared were tried by the callers and are left, so that no set is
         * looked at twice. No deeper than more, which is MAX_BARS at most.
         */
        private void search(Roads roads, int set, int spared, int more) {
            int length = roads.measure(start, end, set);
            take(set, length);
            if (more <= 0 || length >= NO_WAY) {
                return;
            }
            int way = roads.wayTo(end);
            int tried = spared;
            for (int r = 0; r < MAX_ROADS; r++) {
                int bit = 1 << r;
                if ((way & ~tried & bit) != 0) {
                    search(roads, set | bit, tried, more - 1);
                    tried |= bit;
                }
            }
        }

        private void take(int set, int length) {
            int fewer = Integer.bitCount(found) - Integer.bitCount(set);
            boolean tidier = fewer > 0 || fewer == 0 && set < found;
            if (length > foundLength || length == foundLength && tidier) {
                found = set;
                foundLength = length;
            }
        }
    }

    private static final class Posts {
        int size;
        final int[] every = new int[MAX_POSTS];

        int add(int newEvery) {
            int p = size;
            every[p] = newEvery;
            size++;
            return p;
        }

        void copyFrom(Posts other) {
            size = other.size;
            System.arraycopy(other.every, 0, every, 0, MAX_POSTS);
        }

        boolean isLike(Posts other) {
            boolean same = size == other.size;
            for (int p = 0; p < size && same; p++) {
                same = every[p] == other.every[p];
            }
            return same;
        }
    }

    /**
     * The watch. A state tells for each post, in three bits, how many ticks it can still wait. We
     * walk from state to state, the least post first, and turn back where no visit is left; a state
     * met again on the walk closes the endless round.
     */
    private static final class Watch {
        private static final int STATE_BITS = 3 * MAX_POSTS;
        private static final int ROWS = (1 << STATE_BITS) / 64;
        /** No choice of posts needs more than 184 states, or 5826 steps: WatchTest has them all. */
        private static final int MAX_WALK = 256;
        private static final int MAX_STEPS = 1000000;

        private final Posts madeFor = new Posts();
        private final long[] dead = new long[ROWS];
        private final long[] met = new long[ROWS];
        private final int[] states = new int[MAX_WALK];
        private final int[] visits = new int[MAX_WALK];
        /** The visits are size long, and go on from roundStart; 0 if there is no watch. */
        private int size;
        private int roundStart;

        void make(Posts posts) {
            if (madeFor.isLike(posts)) {
                return;
            }
            madeFor.copyFrom(posts);
            Arrays.fill(dead, 0L);
            Arrays.fill(met, 0L);
            size = 0;
            push(fullState());
            boolean closed = false;
            for (int step = 0; step < MAX_STEPS && size > 0 && !closed; step++) {
                closed = advance();
            }
            if (!closed) {
                size = 0;
            }
        }

        int postAt(int tick) {
            int round = size - roundStart;
            if (size <= 0 || round <= 0) {
                return NONE;
            }
            return tick < size ? visits[tick] : visits[roundStart + (tick - roundStart) % round];
        }

        /** One more visit, or one turn back: true if the round is closed. */
        private boolean advance() {
            int top = size - 1;
            int state = states[top];
            visits[top]++;
            if (visits[top] >= madeFor.size) {
                mark(dead, state);
                size--;
                return false;
            }
            int next = stateAfter(state, visits[top]);
            if (next < 0 || isMarked(dead, next)) {
                return false;
            }
            // Met and not dead: it still stands on the walk.
            if (isMarked(met, next)) {
                roundStart = walkPlaceOf(next);
                return true;
            }
            push(next);
            return false;
        }

        private void push(int state) {
            if (size >= MAX_WALK) {
                return;
            }
            mark(met, state);
            states[size] = state;
            visits[size] = -1;
            size++;
        }

        private int walkPlaceOf(int state) {
            int i = 0;
            while (i < size - 1 && states[i] != state) {
                i++;
            }
            return i;
        }

        private int fullState() {
            int state = 0;
            for (int p = 0; p < madeFor.size; p++) {
                state |= madeFor.every[p] - 1 << 3 * p;
            }
            return state;
        }

        /** The state after a visit, or -1 if another post could not wait for it. */
        private int stateAfter(int state, int visited) {
            int next = 0;
            for (int p = 0; p < madeFor.size; p++) {
                int left = (p == visited ? madeFor.every[p] : state >> 3 * p & 7) - 1;
                if (left < 0) {
                    return -1;
                }
                next |= left << 3 * p;
            }
            return next;
        }

        private static boolean isMarked(long[] rows, int state) {
            return (rows[state >> 6] >> (state & 63) & 1L) != 0;
        }

        private static void mark(long[] rows, int state) {
            rows[state >> 6] |= 1L << (state & 63);
        }
    }

    private static final class Haunts {
        int size;
        final int[] places = new int[MAX_HAUNTS];
        final int[] weight = new int[MAX_HAUNTS];

        int add(int newPlaces, int newWeight) {
            int h = size;
            places[h] = newPlaces;
            weight[h] = newWeight;
            size++;
            return h;
        }

        void copyFrom(Haunts other) {
            size = other.size;
            System.arraycopy(other.places, 0, places, 0, MAX_HAUNTS);
            System.arraycopy(other.weight, 0, weight, 0, MAX_HAUNTS);
        }

        int weightCaught(int set) {
            int sum = 0;
            for (int h = 0; h < size; h++) {
                if ((places[h] & set) != 0) {
                    sum += weight[h];
                }
            }
            return sum;
        }

        int heaviestSet(int most) {
            int found = 0;
            int foundWeight = 0;
            for (int set = 1; set <= ALL_PLACES; set++) {
                int bits = Integer.bitCount(set);
                int sum = bits <= most ? weightCaught(set) : 0;
                boolean fewer = sum == foundWeight && bits < Integer.bitCount(found);
                if (bits <= most && (sum > foundWeight || fewer)) {
                    found = set;
                    foundWeight = sum;
                }
            }
            return found;
        }

        int smallestCover() {
            int found = ALL_PLACES;
            for (int set = 0; set <= ALL_PLACES; set++) {
                if (Integer.bitCount(set) < Integer.bitCount(found) && catchesAll(set)) {
                    found = set;
                }
            }
            return found;
        }

        private boolean catchesAll(int set) {
            boolean all = true;
            for (int h = 0; h < size && all; h++) {
                all = (places[h] & set) != 0;
            }
            return all;
        }
    }

    /** The sheets; one that is missing has a size below 0. */
    private static final class Sheets {
        final int[] sort = new int[SHEETS];
        final int[] size = {-1, -1, -1, -1};
        final int[][] numbers = new int[SHEETS][MAX_SHEET];

        boolean isMissing(int s) {
            return size[s] < 0;
        }

        void renew(int s, int newSort, int newSize) {
            sort[s] = newSort;
            size[s] = newSize;
            Arrays.fill(numbers[s], 0);
        }

        int replace(int s, int i, int v) {
            int before = numbers[s][i];
            numbers[s][i] = narrowed(v, sort[s]);
            return before;
        }

        private static int narrowed(int v, int sort) {
            switch (sort) {
                case SORT_BYTES: return (byte) v;
                case SORT_SHORTS: return (short) v;
                default: return v;
            }
        }
    }
}
