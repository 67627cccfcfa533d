import java.util.ArrayList;
import java.util.List;
import java.util.function.Function;
import java.util.function.Supplier;
import java.util.function.ToIntFunction;

/**
 * All that later calls can show of a desk, in parts, each short enough for one desk's 512 calls.
 * Looking may change the desk (sheets are seen by writing), so each part is taken of a desk of its
 * own.
 */
final class Picture {
    private static final List<Function<GuardDesk, String>> PARTS = parts();

    private Picture() {
    }

    /** The call answers the finding on such a desk, and no later call can tell that it was made. */
    static void refused(Due due, String call, Supplier<GuardDesk> desk, ToIntFunction<GuardDesk> ask,
            int finding) {
        int hosts = finding <= Due.NOTHING ? 1 : 0;
        for (int i = 0; i < PARTS.size(); i++) {
            GuardDesk x = desk.get();
            GuardDesk twin = desk.get();
            due.is(call, ask.applyAsInt(x), finding);
            due.is("count(6) after " + call, x.count(6), twin.count(6) + hosts);
            due.is("below() after " + call, x.below(), twin.below());
            String got = PARTS.get(i).apply(x);
            String want = PARTS.get(i).apply(twin);
            due.holds(call + " changed part " + i + ": " + got + " not " + want, got.equals(want));
        }
    }

    /** All parts, of desks that are made anew for each. */
    static String of(Supplier<GuardDesk> desk) {
        StringBuilder b = new StringBuilder();
        for (Function<GuardDesk, String> part : PARTS) {
            b.append(part.apply(desk.get())).append('\n');
        }
        return b.toString();
    }

    private static List<Function<GuardDesk, String>> parts() {
        List<Function<GuardDesk, String>> now = List.of(Picture::targets, Picture::plan, Picture::hand,
            Picture::roads, Picture::watchAndHaunts, x -> sheet(x, 0), x -> sheet(x, 1),
            x -> sheet(x, 2), x -> sheet(x, 3));
        List<Function<GuardDesk, String>> all = new ArrayList<>(now);
        for (Function<GuardDesk, String> part : now) {
            all.add(x -> x.back() + " " + part.apply(x));
        }
        return all;
    }

    private static String targets(GuardDesk x) {
        StringBuilder b = new StringBuilder("targets");
        for (int what = 0; what < 6; what++) {
            add(b, x.count(what));
        }
        for (int t = 0; t <= 10; t++) {
            for (int what = 0; what < 8; what++) {
                add(b, x.of(t, what));
            }
        }
        return b.toString();
    }

    private static String plan(GuardDesk x) {
        StringBuilder b = new StringBuilder("plan");
        add(b, x.best());
        addFraction(b, x, x.worth());
        addFraction(b, x, x.prize());
        for (int t = 0; t < 10; t++) {
            addFraction(b, x, x.share(t));
        }
        add(b, x.lots());
        for (int i = 0; i < 12; i++) {
            add(b, x.team(i));
            addFraction(b, x, x.chance(i));
        }
        return b.toString();
    }

    private static String hand(GuardDesk x) {
        StringBuilder b = new StringBuilder("hand");
        add(b, x.spare());
        add(b, x.comes());
        addFraction(b, x, x.handWorth());
        for (int e = 0; e <= 3600; e += 100) {
            addFraction(b, x, x.errs(e));
        }
        return b.toString();
    }

    private static String roads(GuardDesk x) {
        StringBuilder b = new StringBuilder("roads");
        for (int from = 0; from < 10; from++) {
            for (int to = 0; to < 10; to++) {
                add(b, x.shortest(from, to));
                add(b, x.bars(from, to, (from + to) % 5));
            }
        }
        for (int r = 0; r < 16; r++) {
            add(b, x.bar(r, false));
        }
        return b.toString();
    }

    private static String watchAndHaunts(GuardDesk x) {
        StringBuilder b = new StringBuilder("watch");
        for (int tick = 0; tick < 30; tick++) {
            add(b, x.visit(tick));
        }
        for (int p = 0; p < 5; p++) {
            add(b, x.every(p, 1));
        }
        b.append(" haunts");
        for (int place = 0; place < 10; place++) {
            add(b, x.caught(1 << place));
            add(b, x.caught(1023 - (1 << place)));
        }
        for (int n = 0; n <= 10; n++) {
            add(b, x.traps(n));
        }
        add(b, x.cover());
        return b.toString();
    }

    private static String sheet(GuardDesk x, int s) {
        StringBuilder b = new StringBuilder("sheet");
        for (int sort = 0; sort < 3; sort++) {
            add(b, x.handFrom(s, sort, -1));
        }
        for (int i = 0; i <= 40; i++) {
            add(b, x.write(s, i, 0));
        }
        return b.toString();
    }

    private static void add(StringBuilder b, int answer) {
        b.append(' ').append(answer);
    }

    private static void addFraction(StringBuilder b, GuardDesk x, int above) {
        add(b, above);
        b.append('/').append(x.below());
    }
}
