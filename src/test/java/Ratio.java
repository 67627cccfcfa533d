/** A fraction in lowest terms, for checks that know nothing of how the desk counts. */
record Ratio(long above, long below) {
    Ratio {
        if (below == 0) {
            throw new IllegalArgumentException("nothing below");
        }
        long g = gcd(Math.abs(above), Math.abs(below)) * (below < 0 ? -1 : 1);
        above /= g;
        below /= g;
    }

    static Ratio of(long above) {
        return new Ratio(above, 1);
    }

    Ratio plus(Ratio o) {
        return new Ratio(Math.addExact(Math.multiplyExact(above, o.below),
            Math.multiplyExact(o.above, below)), Math.multiplyExact(below, o.below));
    }

    Ratio minus(Ratio o) {
        return plus(new Ratio(-o.above, o.below));
    }

    Ratio times(Ratio o) {
        return new Ratio(Math.multiplyExact(above, o.above), Math.multiplyExact(below, o.below));
    }

    Ratio by(Ratio o) {
        return times(new Ratio(o.below, o.above));
    }

    int compare(Ratio o) {
        return Long.compare(Math.multiplyExact(above, o.below), Math.multiplyExact(o.above, below));
    }

    Ratio max(Ratio o) {
        return compare(o) >= 0 ? this : o;
    }

    private static long gcd(long a, long b) {
        return b == 0 ? a : gcd(b, a % b);
    }
}
