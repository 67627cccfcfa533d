import java.util.Random;

/** Promises 34 to 36: keep, back, count; and that no call throws or changes what it may not. */
public final class KeepTest {
    private static final Due DUE = new Due("KeepTest");

    public static void main(String[] args) {
        keepAndBack();
        emptyKept();
        count();
        Random random = new Random(23);
        for (int i = 0; i < 300; i++) {
            anyCalls(random, 1 + i % 3);
        }
        DUE.end();
    }

    private static GuardDesk furnished() {
        GuardDesk x = new GuardDesk();
        x.target(0, 5, -5, 6, 12);
        x.target(3, 1, 0, 3, 3);
        x.bounds(1, 10, 50);
        x.put(0, 33);
        x.guards(2);
        x.road(0, 1, 5);
        x.road(0, 1, 9);
        x.bar(0, true);
        x.post(2);
        x.post(3);
        x.haunt(3, 5);
        x.haunt(4, 6);
        x.sheet(0, 0, 2);
        x.write(0, 0, 7);
        return x;
    }

    private static void keepAndBack() {
        GuardDesk x = furnished();
        String before = picture(x);
        DUE.is("keep()", x.keep(), 2);
        x.drop();
        x.bounds(0, 0, 0);
        x.put(0, 1);
        x.target(1, 9, 9, 9, 1);
        x.target(2, 8, 8, 8, 2);
        x.guards(7);
        x.bar(0, false);
        x.bar(1, true);
        x.road(3, 4, 5);
        x.every(0, 5);
        x.post(8);
        x.haunt(8, 8);
        x.write(0, 0, 9);
        x.sheet(1, 2, 4);
        DUE.is("back()", x.back(), 2);
        DUE.holds("as it was kept: " + picture(x) + " not " + before, picture(x).equals(before));
        DUE.is("sheets are not kept", x.write(0, 0, 9), 9);
        DUE.is("sheets are not kept", x.write(1, 0, 9), 0);
        x.put(0, 2);
        x.guards(9);
        DUE.is("back() again: still kept", x.back(), 2);
        DUE.holds("as it was kept", picture(x).equals(before));
        x.drop();
        DUE.is("keep() in place of what was", x.keep(), 1);
        x.drop();
        DUE.is("back()", x.back(), 1);
        DUE.is("count(0)", x.count(0), 1);
        DUE.is("of(0, 7)", x.of(0, 7), 33);
    }

    private static void emptyKept() {
        GuardDesk x = new GuardDesk();
        DUE.is("back()", x.back(), Due.NOTHING);
        DUE.is("keep()", x.keep(), 0);
        x.target(0, 0, 0, 0, 1);
        x.guards(0);
        x.road(0, 1, 1);
        x.bar(0, true);
        x.post(1);
        x.haunt(1, 1);
        DUE.is("drop()", x.drop(), 0);
        DUE.is("drop()", x.drop(), Due.NOTHING);
        DUE.is("back()", x.back(), 0);
        int[] counts = {0, 1, 0, 0, 0, 0, 2};
        for (int what = 0; what < counts.length; what++) {
            DUE.is("count(" + what + ")", x.count(what), counts[what]);
        }
        x.road(0, 1, 1);
        DUE.is("count(3): a new road is not barred", x.count(3), 0);
        DUE.is("shortest(0, 1)", x.shortest(0, 1), 1);
    }

    private static void count() {
        GuardDesk x = furnished();
        int[] counts = {2, 2, 2, 1, 2, 2, 0};
        for (int what = 0; what < counts.length; what++) {
            DUE.is("count(" + what + ")", x.count(what), counts[what]);
        }
        DUE.is("count(7)", x.count(7), Due.BAD);
        DUE.is("count(-1)", x.count(-1), Due.BAD);
        for (int far : Due.FAR) {
            DUE.is("count(far)", x.count(far), Due.BAD);
        }
        DUE.is("count(6): BAD is not the host's", x.count(6), 0);
        x.bounds(0, 0, 0);
        DUE.is("count(6): SORT", x.count(6), 1);
        x.sheet(0, 0, -1);
        DUE.is("count(6): SIZE", x.count(6), 2);
        x.write(0, 5, 5);
        DUE.is("count(6): PLACE", x.count(6), 3);
        x.write(1, 0, 0);
        DUE.is("count(6): NOTHING", x.count(6), 4);
        x.shortest(5, 6);
        x.team(99);
        DUE.is("count(6): NONE is not the host's", x.count(6), 4);
    }

    /** All that can be asked for without changing anything, but below and the findings. */
    private static String picture(GuardDesk x) {
        StringBuilder b = new StringBuilder();
        for (int what = 0; what < 6; what++) {
            b.append(x.count(what)).append(' ');
        }
        for (int t = 0; t < x.count(0); t++) {
            for (int what = 0; what < 8; what++) {
                b.append(x.of(t, what)).append(',');
            }
        }
        b.append(x.best()).append(' ').append(x.lots()).append(' ').append(x.comes()).append(' ');
        for (int from = 0; from < 4; from++) {
            for (int to = 0; to < 4; to++) {
                b.append(x.shortest(from, to)).append(',').append(x.bars(from, to, 2)).append(' ');
            }
        }
        for (int tick = 0; tick < 10 && x.count(4) > 0; tick++) {
            b.append(x.visit(tick)).append(',');
        }
        for (int place = 0; place < 10; place++) {
            b.append(x.caught(1 << place)).append(';');
        }
        return b.append(x.cover()).append(' ').append(x.traps(1)).toString();
    }

    /** 512 calls of all kinds with ordinary, near and far numbers: findings change nothing. */
    private static void anyCalls(Random random, int wildness) {
        GuardDesk x = new GuardDesk();
        int hosts = 0;
        String before = picture(x);
        int below = x.below();
        for (int i = 0; i < 512; i++) {
            int which = random.nextInt(36);
            int got = call(x, random, which, wildness);
            String after = picture(x);
            if (got < -1000000000) {
                DUE.holds("call " + which + " that finds " + got + " changes nothing", after.equals(before));
                DUE.is("below() after a finding", x.below(), below);
                hosts += got <= Due.NOTHING ? 1 : 0;
            }
            DUE.is("count(6) after call " + which, x.count(6), hosts);
            DUE.holds("below() above 0", x.below() > 0);
            boolean tells = which == 7 || which == 8 || which == 9 || which == 14 || which == 15
                || which == 18;
            DUE.holds("only fractions change below()", tells || x.below() == below);
            below = x.below();
            before = after;
        }
    }

    private static int some(Random random, int wildness, int least, int most) {
        int kind = random.nextInt(20);
        if (kind >= wildness) {
            return least + random.nextInt(most - least + 1);
        }
        return kind == 0 ? random.nextInt() : least - 2 + random.nextInt(most - least + 5);
    }

    private static int call(GuardDesk x, Random r, int which, int w) {
        int t = some(r, w, 0, Math.max(0, x.count(0) - 1));
        switch (which) {
            case 0: return x.target(some(r, w, 0, 3), some(r, w, 0, 60), some(r, w, -60, 0),
                some(r, w, -60, 60), Due.GAPS[r.nextInt(12)]);
            case 1: return x.bounds(t, some(r, w, 0, 20), some(r, w, 20, 60));
            case 2: return x.guards(some(r, w, 0, 10));
            case 3: return x.of(t, some(r, w, 0, 7));
            case 4: return x.drop();
            case 5: return x.count(some(r, w, 0, 6));
            case 6: return x.best();
            case 7: return x.worth();
            case 8: return x.prize();
            case 9: return x.share(t);
            case 10: return x.below();
            case 11: return x.put(t, some(r, w, 0, 60));
            case 12: return x.spare();
            case 13: return x.comes();
            case 14: return x.handWorth();
            case 15: return x.errs(some(r, w, 0, 3600));
            case 16: return x.lots();
            case 17: return x.team(some(r, w, 0, 10));
            case 18: return x.chance(some(r, w, 0, 10));
            case 19: return x.road(some(r, w, 0, 9), some(r, w, 0, 9), some(r, w, 1, 100));
            case 20: return x.bar(some(r, w, 0, 15), r.nextBoolean());
            case 21: return x.shortest(some(r, w, 0, 9), some(r, w, 0, 9));
            case 22: return x.bars(some(r, w, 0, 9), some(r, w, 0, 9), some(r, w, 0, 4));
            case 23: return x.post(some(r, w, 1, 8));
            case 24: return x.every(some(r, w, 0, 4), some(r, w, 1, 8));
            case 25: return x.visit(some(r, w, 0, 1000));
            case 26: return x.haunt(some(r, w, 1, 1023), some(r, w, 1, 1000));
            case 27: return x.caught(some(r, w, 0, 1023));
            case 28: return x.traps(some(r, w, 0, 10));
            case 29: return x.cover();
            case 30: return x.sheet(some(r, w, 0, 3), some(r, w, 0, 2), some(r, w, 0, 40));
            case 31: return x.write(some(r, w, 0, 3), some(r, w, 0, 39), some(r, 20, 0, 60));
            case 32: return x.handFrom(some(r, w, 0, 3), some(r, w, 0, 2), some(r, w, 0, 30));
            case 33: return x.keep();
            case 34: return x.back();
            default: return x.target(r.nextInt(4), r.nextInt(3), -r.nextInt(3), r.nextInt(4), 3);
        }
    }
}
