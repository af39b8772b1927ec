import java.util.function.Supplier;

/**
 * Each number of each call: the least and the most that are allowed, with what is due for them, the first that are
 * not, on both sides, and some far out, which must not come in again by wrapping around.
 */
final class BoundsTest {
    private static final int NONE = KeptMoving.NONE;
    private static final int UNKNOWN = KeptMoving.UNKNOWN;
    private static final int OUTSIDE = KeptMoving.OUTSIDE;
    private static final int MOST = Integer.MAX_VALUE;
    private static final int LEAST = Integer.MIN_VALUE;

    /** 7158279 times 600 is 104 as an int; the last two are times 200 a small number or 0. */
    private static final int[] FAR_OUT = {LEAST, LEAST + 1, MOST, MOST - 1, 1 << 16, -(1 << 16), 1 << 8, -(1 << 8),
        7158279, 21474837, 1 << 29};

    private static final Check CHECK = new Check("BoundsTest");

    /** A call with one of its numbers left open. */
    private interface Asked {
        long of(KeptMoving x, int number);
    }

    /** The least and the most that are allowed, with what is due for them. */
    private record Bounds(int least, long atLeast, int most, long atMost) {
    }

    public static void main(String[] args) {
        changes();
        countedAndTold();
        moments();
        places();
        linesUp();
        meetings();
        near();
        first();
        within();
        CHECK.end();
    }

    private static Bounds bounds(int least, long atLeast, int most, long atMost) {
        return new Bounds(least, atLeast, most, atMost);
    }

    private static void number(String call, Supplier<Subject> made, Asked asked, Bounds bounds, long beyond) {
        CHECK.due(call + " with " + bounds.least, made.get().done(x -> asked.of(x, bounds.least)), bounds.atLeast);
        CHECK.due(call + " with " + bounds.most, made.get().done(x -> asked.of(x, bounds.most)), bounds.atMost);
        refused(call, made, asked, bounds.least - 1, beyond);
        refused(call, made, asked, bounds.most + 1, beyond);
        for (int far : FAR_OUT) {
            if (far < bounds.least || far > bounds.most) {
                refused(call, made, asked, far, beyond);
            }
        }
    }

    private static void refused(String call, Supplier<Subject> made, Asked asked, int number, long want) {
        CHECK.refused(call + " with " + number, made.get(), x -> asked.of(x, number), want);
    }

    /** Two POINTS that met at 5 / 1; NOW is 100. */
    private static Subject pair() {
        Subject x = new Subject();
        x.point(0, 2);
        x.point(20, -2);
        x.go(100);
        return x;
    }

    /** POINT i stands at 3 i, from 0 on. */
    private static Subject ten() {
        Subject x = new Subject();
        for (int i = 0; i < 10; i++) {
            x.point(3 * i, 0);
        }
        x.go(1);
        return x;
    }

    private static void changes() {
        number("2: point(#, 0)", Subject::new, (x, n) -> x.point(n, 0), bounds(-1000, 0, 1000, 0), OUTSIDE);
        number("2: point(0, #)", Subject::new, (x, n) -> x.point(0, n), bounds(-50, 0, 50, 0), OUTSIDE);
        number("3: speed(#, 9)", BoundsTest::pair, (x, n) -> x.speed(n, 9), bounds(0, 2, 1, -2), UNKNOWN);
        number("3: speed(#, 9) of ten", BoundsTest::ten, (x, n) -> x.speed(n, 9), bounds(0, 0, 9, 0), UNKNOWN);
        number("3: speed(1, #)", BoundsTest::pair, (x, n) -> x.speed(1, n), bounds(-50, -2, 50, -2), OUTSIDE);
        number("4: gone(#)", BoundsTest::pair, (x, n) -> x.gone(n), bounds(0, 1, 1, 1), UNKNOWN);
        number("4: gone(#) of ten", BoundsTest::ten, (x, n) -> x.gone(n), bounds(0, 1, 9, 1), UNKNOWN);
        number("5: go(#)", BoundsTest::pair, (x, n) -> x.go(n), bounds(0, 100, 100, 200), OUTSIDE);
        number("6: back(#)", BoundsTest::pair, (x, n) -> x.back(n), bounds(0, 100, 100, 0), OUTSIDE);
    }

    private static void countedAndTold() {
        number("7: count(#)", BoundsTest::pair, (x, n) -> x.count(n), bounds(0, 100, 5, 1), OUTSIDE);
        number("8: told(#, 3)", BoundsTest::pair, (x, n) -> x.told(n, 3), bounds(0, 2, 1, -2), UNKNOWN);
        number("8: told(#, 2) of ten", BoundsTest::ten, (x, n) -> x.told(n, 2), bounds(0, 1, 9, 1), UNKNOWN);
        number("8: told(1, #)", BoundsTest::pair, (x, n) -> x.told(1, n), bounds(0, 0, 3, -2), OUTSIDE);
    }

    /** The MOMENTS of 9, 10 and 12: from 0 to 600 over every lower number, which is from 1 to 200. */
    private static void moments() {
        for (int d : new int[] {1, 2, 3, 7, 64, 199, 200}) {
            Bounds places = bounds(0, 20, 600 * d, -1180);
            number("9: place(1, #, " + d + ", 0)", BoundsTest::pair, (x, n) -> x.place(1, n, d, 0), places, OUTSIDE);
            Bounds order = bounds(0, 0, 600 * d, 1);
            number("10: order(#, " + d + ", 0)", BoundsTest::pair, (x, n) -> x.order(n, d, 0), order, OUTSIDE);
            Bounds foremost = bounds(0, 1, 600 * d, 0);
            number("12: at(#, " + d + ", 1, 0)", BoundsTest::pair, (x, n) -> x.at(n, d, 1, 0), foremost, OUTSIDE);
        }
        for (int n : new int[] {0, 1, 600}) {
            int late = n == 600 ? 1 : 0;
            Bounds places = bounds(1, 20 - 2 * n, 200, n == 1 ? 1999 : 20 - n / 100);
            number("9: place(1, " + n + ", #, 0)", BoundsTest::pair, (x, d) -> x.place(1, n, d, 0), places, OUTSIDE);
            Bounds order = bounds(1, late, 200, 0);
            number("10: order(" + n + ", #, 0)", BoundsTest::pair, (x, d) -> x.order(n, d, 0), order, OUTSIDE);
            Bounds foremost = bounds(1, 1 - late, 200, 1);
            number("12: at(" + n + ", #, 1, 0)", BoundsTest::pair, (x, d) -> x.at(n, d, 1, 0), foremost, OUTSIDE);
        }
    }

    private static void places() {
        number("9: place(#, 3, 1, 0)", BoundsTest::pair, (x, n) -> x.place(n, 3, 1, 0), bounds(0, 6, 1, 14), UNKNOWN);
        number("9: place(#, 1, 9, 0) of ten", BoundsTest::ten, (x, n) -> x.place(n, 1, 9, 0), bounds(0, 0, 9, 27), UNKNOWN);
        number("9: place(0, 5, 4, #)", BoundsTest::pair, (x, n) -> x.place(0, 5, 4, n), bounds(0, 5, 1, 2), OUTSIDE);
    }

    private static void linesUp() {
        number("10: order(9, 1, #)", BoundsTest::pair, (x, n) -> x.order(9, 1, n), bounds(0, 1, 1, 0), NONE);
        number("10: order(9, 1, #) of ten", BoundsTest::ten, (x, n) -> x.order(9, 1, n), bounds(0, 0, 9, 9), NONE);
        number("11: kept(#)", BoundsTest::pair, (x, n) -> x.kept(n), bounds(0, 1, 1, 0), NONE);
        number("11: kept(#) of ten", BoundsTest::ten, (x, n) -> x.kept(n), bounds(0, 0, 9, 9), NONE);
        number("12: at(9, 1, #, 9)", BoundsTest::pair, (x, n) -> x.at(9, 1, n, 9), bounds(0, 2, 4, 2), OUTSIDE);
        int[] dues = {2, 0, 1, 0};
        for (int what = 0; what <= 3; what++) {
            int asked = what;
            Bounds same = bounds(0, dues[what], 2000, dues[what]);
            number("12: at(9, 1, " + what + ", #)", BoundsTest::pair, (x, n) -> x.at(9, 1, asked, n), same, OUTSIDE);
        }
        number("12: at(9, 1, 4, #)", BoundsTest::pair, (x, n) -> x.at(9, 1, 4, n), bounds(0, 2, 2000, 1), OUTSIDE);
    }

    private static void meetings() {
        number("13: meeting(0, #)", BoundsTest::pair, (x, n) -> x.meeting(0, n), bounds(0, 5, 3, 1), OUTSIDE);
        number("13: meeting(1, #)", BoundsTest::pair, (x, n) -> x.meeting(1, n), bounds(0, NONE, 3, NONE), OUTSIDE);
        number("13: meeting(NONE, #)", BoundsTest::pair, (x, n) -> x.meeting(NONE, n), bounds(0, NONE, 3, NONE), OUTSIDE);
        number("13: meeting(#, 0)", BoundsTest::pair, (x, n) -> x.meeting(n, 0), bounds(0, 5, 0, 5), NONE);
    }

    /** NEAR by 4 from 4 / 1 to 6 / 1. */
    private static void near() {
        number("14: near(#, 1, ..)", BoundsTest::ten, (x, n) -> x.near(n, 1, 24, 9, NONE, 0),
                bounds(0, 1, 9, 1), UNKNOWN);
        number("14: near(8, #, ..)", BoundsTest::ten, (x, n) -> x.near(8, n, 24, 9, NONE, 0),
                bounds(0, 1, 9, 1), UNKNOWN);
        number("14: near(0, 1, #, 600, 0, 2)", BoundsTest::pair, (x, n) -> x.near(0, 1, n, 600, 0, 2),
                bounds(0, 5, 2000, 505), OUTSIDE);
        number("14: near(0, 1, 20, #, 0, 2)", BoundsTest::pair, (x, n) -> x.near(0, 1, 20, n, 0, 2),
                bounds(1, 1, 600, 10), OUTSIDE);
        for (int k = -2; k <= 1; k++) {
            int asked = k;
            long due = k == NONE ? 1 : NONE;
            number("14: near(0, 1, 4, 600, " + k + ", #)", BoundsTest::pair, (x, n) -> x.near(0, 1, 4, 600, asked, n),
                    k == 0 ? bounds(0, 4, 3, 1) : bounds(0, due, 3, due), OUTSIDE);
        }
        number("14: near(0, 1, 4, 600, #, 2)", BoundsTest::pair, (x, n) -> x.near(0, 1, 4, 600, n, 2),
                bounds(-1, 1, 0, 6), NONE);
    }

    /** POINT 0 is FIRST from 5 / 1 on. */
    private static void first() {
        number("15: first(#, 9, NONE, 0)", BoundsTest::pair, (x, n) -> x.first(n, 9, NONE, 0), bounds(0, 1, 1, 1), UNKNOWN);
        number("15: first(#, 9, NONE, 0) of ten", BoundsTest::ten, (x, n) -> x.first(n, 9, NONE, 0),
                bounds(0, 0, 9, 1), UNKNOWN);
        number("15: first(1, #, 0, 2)", BoundsTest::pair, (x, n) -> x.first(1, n, 0, 2), bounds(1, 1, 600, 5), OUTSIDE);
        for (int k = -2; k <= 1; k++) {
            int asked = k;
            long due = k == NONE ? 1 : NONE;
            number("15: first(0, 600, " + k + ", #)", BoundsTest::pair, (x, n) -> x.first(0, 600, asked, n),
                    k == 0 ? bounds(0, 5, 3, 1) : bounds(0, due, 3, due), OUTSIDE);
        }
        number("15: first(0, 600, #, 0)", BoundsTest::pair, (x, n) -> x.first(0, 600, n, 0), bounds(-1, 1, 0, 5), NONE);
    }

    /** Two lie from 8 to 12 from 4 / 1 to 6 / 1. */
    private static void within() {
        number("16: within(#, 60000, 2, 9, NONE, 0)", BoundsTest::pair, (x, n) -> x.within(n, 60000, 2, 9, NONE, 0),
                bounds(-60000, 1, 60000, 0), OUTSIDE);
        number("16: within(#, 10, 2, 9, NONE, 0)", BoundsTest::pair, (x, n) -> x.within(n, 10, 2, 9, NONE, 0),
                bounds(-60000, 1, 10, 1), OUTSIDE);
        number("16: within(-60000, #, 2, 9, NONE, 0)", BoundsTest::pair, (x, n) -> x.within(-60000, n, 2, 9, NONE, 0),
                bounds(-60000, 0, 60000, 1), OUTSIDE);
        number("16: within(10, #, 2, 9, NONE, 0)", BoundsTest::pair, (x, n) -> x.within(10, n, 2, 9, NONE, 0),
                bounds(10, 1, 60000, 1), OUTSIDE);
        number("16: within(0, 27, #, 9, NONE, 0) of ten", BoundsTest::ten, (x, n) -> x.within(0, 27, n, 9, NONE, 0),
                bounds(1, 1, 10, 1), OUTSIDE);
        number("16: within(-60000, 60000, 1, #, 0, 2)", BoundsTest::pair, (x, n) -> x.within(-60000, 60000, 1, n, 0, 2),
                bounds(1, 1, 600, 600), OUTSIDE);
        for (int k = -2; k <= 1; k++) {
            int asked = k;
            long due = k == NONE ? 1 : NONE;
            number("16: within(8, 12, 2, 600, " + k + ", #)", BoundsTest::pair,
                    (x, n) -> x.within(8, 12, 2, 600, asked, n),
                    k == 0 ? bounds(0, 4, 3, 1) : bounds(0, due, 3, due), OUTSIDE);
        }
        number("16: within(8, 12, 2, 600, #, 0)", BoundsTest::pair, (x, n) -> x.within(8, 12, 2, 600, n, 0),
                bounds(-1, 1, 0, 4), NONE);
    }
}
