/** A fraction in least terms, for the reference. */
record Ratio(long upper, long lower) implements Comparable<Ratio> {
    Ratio {
        long common = commonDivisor(Math.abs(upper), Math.abs(lower)) * Long.signum(lower);
        upper /= common;
        lower /= common;
    }

    static Ratio of(long number) {
        return new Ratio(number, 1);
    }

    Ratio plus(Ratio other) {
        return new Ratio(upper * other.lower + other.upper * lower, lower * other.lower);
    }

    Ratio minus(Ratio other) {
        return plus(other.times(-1));
    }

    Ratio times(long factor) {
        return new Ratio(upper * factor, lower);
    }

    Ratio over(long divisor) {
        return new Ratio(upper, lower * divisor);
    }

    int sign() {
        return Long.signum(upper);
    }

    @Override
    public int compareTo(Ratio other) {
        return Long.compare(upper * other.lower, other.upper * lower);
    }

    private static long commonDivisor(long one, long other) {
        return other == 0 ? one : commonDivisor(other, one % other);
    }
}
