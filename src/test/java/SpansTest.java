/** Promises 14 to 16: SPANS of NEAR, FIRST and WITHIN. */
final class SpansTest {
    private static final int NONE = KeptMoving.NONE;
    private static final int UNKNOWN = KeptMoving.UNKNOWN;
    private static final int OUTSIDE = KeptMoving.OUTSIDE;
    private static final int NOT = KeptMoving.NOT;
    private static final int MOST = Integer.MAX_VALUE;
    private static final int LEAST = Integer.MIN_VALUE;

    private static final Check CHECK = new Check("SpansTest");

    public static void main(String[] args) {
        promise14Near();
        promise14NearWhileThere();
        promise14Refusals();
        promise15First();
        promise15FirstWithRivals();
        promise15Refusals();
        promise16Within();
        promise16WithinWhileThere();
        promise16Refusals();
        whichSpan();
        CHECK.end();
    }

    private static void near(KeptMoving x, int width, int end, String want) {
        CHECK.dueText("near(0, 1, " + width + ", " + end + ")", Snapshot.near(x, 0, 1, width, end), want);
        CHECK.dueText("near(1, 0, " + width + ", " + end + ")", Snapshot.near(x, 1, 0, width, end), want);
    }

    private static void first(KeptMoving x, int i, int end, String want) {
        CHECK.dueText("first(" + i + ", " + end + ")", Snapshot.first(x, i, end), want);
    }

    private static void within(KeptMoving x, int low, int high, int m, int end, String want) {
        CHECK.dueText("within(" + low + ", " + high + ", " + m + ", " + end + ")",
                Snapshot.within(x, low, high, m, end), want);
    }

    private static void promise14Near() {
        KeptMoving x = new KeptMoving();
        x.point(0, 3);
        x.point(10, 0);
        near(x, 4, 600, "1: 2/1-14/3");
        near(x, 0, 600, "1: 10/3-10/3");
        near(x, 2000, 600, "1: 0/1-600/1");
        near(x, 10, 600, "1: 0/1-20/3");
        near(x, 4, 2, "1: 2/1-2/1");
        near(x, 4, 1, "0:");
        near(x, 4, 3, "1: 2/1-3/1");
        x.go(4);
        x.speed(0, 0);
        near(x, 2, 600, "1: 8/3-600/1");
        near(x, 1, 600, "1: 3/1-11/3");
        x.go(1);
        x.speed(0, -2);
        near(x, 1, 600, "2: 3/1-11/3 11/2-13/2");
        x.go(1);
        x.speed(0, 2);
        near(x, 0, 600, "2: 10/3-10/3 6/1-6/1");
        x.speed(0, 0);
        near(x, 0, 600, "2: 10/3-10/3 6/1-600/1");
    }

    private static void promise14NearWhileThere() {
        KeptMoving x = new KeptMoving();
        x.point(0, 0);
        x.go(3);
        x.point(2, -1);
        x.go(4);
        x.gone(1);
        near(x, 2, 600, "1: 3/1-7/1");
        near(x, 1, 600, "1: 4/1-6/1");
        near(x, 0, 600, "1: 5/1-5/1");
        near(x, 2, 3, "1: 3/1-3/1");
        near(x, 2, 2, "0:");
        near(x, 2, 7, "1: 3/1-7/1");
        x.back(1);
        x.gone(1);
        near(x, 1, 600, "1: 4/1-6/1");
        x.back(0);
        x.speed(1, -50);
        x.go(1);
        x.gone(1);
        near(x, 1, 6, "1: 4/1-6/1");
        x.back(2);
        x.gone(1);
        near(x, 0, 600, "0:");
        near(x, 1, 600, "1: 4/1-5/1");
    }

    private static void promise14Refusals() {
        KeptMoving x = new KeptMoving();
        x.point(0, 0);
        x.point(1, 0);
        int[][] unknown = {{0, 2, 0, 1, NONE, 0}, {2, 0, -1, 0, NONE, 9}, {-1, -1, 0, 1, 0, 0}, {2, 2, 0, 1, 0, 0}};
        int[][] outside = {{0, 1, -1, 1, NONE, 0}, {0, 1, 2001, 1, NONE, 0}, {0, 1, 0, 0, NONE, 0},
            {0, 1, 0, 601, NONE, 0}, {0, 1, 0, 1, NONE, 4}, {0, 1, 0, 1, NONE, -1}, {1, 1, 2001, 1, NONE, 0},
            {1, 1, 0, 0, NONE, 0}, {0, 0, 0, 1, NONE, 4}, {0, 1, MOST, MOST, MOST, MOST}, {0, 1, 0, 1, 9, 4}};
        int[][] not = {{0, 0, 0, 1, NONE, 0}, {1, 1, 2000, 600, 0, 3}, {1, 1, 0, 1, -7, 0}};
        refusedNear(x, unknown, UNKNOWN);
        refusedNear(x, outside, OUTSIDE);
        refusedNear(x, not, NOT);
    }

    private static void refusedNear(KeptMoving x, int[][] rows, int want) {
        for (int[] r : rows) {
            CHECK.refused("near" + java.util.Arrays.toString(r), x,
                    y -> y.near(r[0], r[1], r[2], r[3], r[4], r[5]), want);
        }
    }

    private static void promise15First() {
        KeptMoving x = new KeptMoving();
        x.point(0, 2);
        first(x, 0, 600, "1: 0/1-600/1");
        x.point(5, 0);
        first(x, 0, 600, "1: 5/2-600/1");
        first(x, 1, 600, "1: 0/1-5/2");
        first(x, 0, 2, "0:");
        first(x, 0, 3, "1: 5/2-3/1");
        x.speed(0, 1);
        first(x, 0, 5, "1: 5/1-5/1");
        x.go(5);
        x.speed(0, 0);
        first(x, 0, 9, "1: 5/1-9/1");
        first(x, 1, 9, "1: 0/1-9/1");
        x.speed(0, -1);
        first(x, 0, 9, "1: 5/1-5/1");
        first(x, 1, 9, "1: 0/1-9/1");
        x.go(2);
        x.speed(0, 3);
        first(x, 0, 9, "2: 5/1-5/1 23/3-9/1");
        first(x, 1, 9, "1: 0/1-23/3");
    }

    private static void promise15FirstWithRivals() {
        KeptMoving x = new KeptMoving();
        x.go(1);
        x.point(0, 1);
        x.go(2);
        x.point(9, 0);
        x.go(3);
        x.gone(1);
        x.go(1);
        x.point(7, 0);
        x.go(4);
        x.gone(0);
        first(x, 0, 600, "3: 1/1-3/1 6/1-7/1 8/1-11/1");
        x.back(0);
        first(x, 0, 600, "3: 1/1-3/1 6/1-7/1 8/1-600/1");
        first(x, 1, 600, "1: 3/1-6/1");
        first(x, 2, 600, "1: 7/1-8/1");
        first(x, 2, 7, "1: 7/1-7/1");
        first(x, 2, 6, "0:");
        first(x, 0, 3, "1: 1/1-3/1");
        first(x, 0, 6, "2: 1/1-3/1 6/1-6/1");
        x.gone(0);
        first(x, 2, 600, "2: 7/1-8/1 11/1-600/1");
        x.gone(2);
        first(x, 2, 600, "1: 7/1-8/1");
    }

    private static void promise15Refusals() {
        KeptMoving x = new KeptMoving();
        CHECK.refused("first(0, 1, NONE, 0) without points", x, y -> y.first(0, 1, NONE, 0), UNKNOWN);
        x.point(0, 0);
        int[][] unknown = {{1, 0, NONE, 9}, {-1, 1, NONE, 0}, {MOST, 1, 0, 0}};
        int[][] outside = {{0, 0, NONE, 0}, {0, -1, NONE, 0}, {0, 601, NONE, 0}, {0, 1, NONE, 4}, {0, 1, NONE, -1},
            {0, 1, 9, 4}, {0, LEAST, LEAST, LEAST}};
        for (int[] r : unknown) {
            CHECK.refused("first" + java.util.Arrays.toString(r), x, y -> y.first(r[0], r[1], r[2], r[3]), UNKNOWN);
        }
        for (int[] r : outside) {
            CHECK.refused("first" + java.util.Arrays.toString(r), x, y -> y.first(r[0], r[1], r[2], r[3]), OUTSIDE);
        }
    }

    private static void promise16Within() {
        KeptMoving x = new KeptMoving();
        within(x, -60000, 60000, 1, 600, "0:");
        x.point(0, 3);
        x.point(20, -3);
        x.point(10, 0);
        within(x, 8, 12, 1, 600, "1: 0/1-600/1");
        within(x, 8, 12, 2, 600, "1: 8/3-4/1");
        within(x, 8, 12, 3, 600, "1: 8/3-4/1");
        within(x, 8, 12, 4, 600, "0:");
        within(x, 8, 12, 10, 600, "0:");
        within(x, 10, 10, 3, 600, "1: 10/3-10/3");
        within(x, 0, 4, 1, 600, "2: 0/1-4/3 16/3-20/3");
        within(x, 0, 8, 2, 600, "0:");
        within(x, 0, 10, 2, 600, "1: 0/1-20/3");
        within(x, 0, 10, 3, 600, "1: 10/3-10/3");
        within(x, -60000, 60000, 3, 600, "1: 0/1-600/1");
        within(x, 20, 60000, 1, 600, "2: 0/1-0/1 20/3-600/1");
        within(x, 20, 20, 1, 600, "2: 0/1-0/1 20/3-20/3");
        within(x, 20, 20, 1, 6, "1: 0/1-0/1");
        within(x, 1810, 1810, 1, 600, "0:");
        within(x, 1800, 1800, 1, 600, "1: 600/1-600/1");
        within(x, -1780, -1780, 1, 600, "1: 600/1-600/1");
    }

    private static void promise16WithinWhileThere() {
        KeptMoving x = new KeptMoving();
        x.point(0, 0);
        x.go(2);
        x.point(3, 0);
        x.go(2);
        x.gone(0);
        x.point(0, 0);
        within(x, 0, 3, 1, 600, "1: 0/1-600/1");
        within(x, 0, 3, 2, 600, "1: 2/1-600/1");
        within(x, 0, 3, 3, 600, "0:");
        within(x, 0, 2, 1, 600, "1: 0/1-600/1");
        within(x, 0, 2, 2, 600, "0:");
        x.go(2);
        x.speed(1, -1);
        x.speed(2, 1);
        within(x, 1, 2, 2, 600, "1: 7/1-8/1");
        within(x, 1, 2, 1, 600, "1: 7/1-8/1");
        x.go(2);
        x.gone(1);
        within(x, 1, 1, 1, 600, "1: 7/1-7/1");
        within(x, 2, 2, 1, 600, "2: 7/1-7/1 8/1-8/1");
        x.gone(2);
        within(x, 1, 1, 1, 600, "1: 7/1-7/1");
        within(x, 2, 2, 1, 600, "1: 7/1-7/1");
        within(x, 0, 3, 1, 600, "1: 0/1-8/1");
        within(x, 0, 3, 1, 8, "1: 0/1-8/1");
    }

    private static void promise16Refusals() {
        KeptMoving x = new KeptMoving();
        x.point(0, 0);
        int[][] outside = {{1, 0, 1, 1, NONE, 0}, {-60001, 0, 1, 1, NONE, 0}, {0, 60001, 1, 1, NONE, 0},
            {60001, 60001, 1, 1, NONE, 0}, {-60001, -60001, 1, 1, NONE, 0}, {0, 0, 0, 1, NONE, 0},
            {0, 0, 11, 1, NONE, 0}, {0, 0, 1, 0, NONE, 0}, {0, 0, 1, 601, NONE, 0}, {0, 0, 1, 1, NONE, 4},
            {0, 0, 1, 1, NONE, -1}, {0, 0, 1, 1, 9, 4}, {LEAST, MOST, MOST, MOST, MOST, MOST}};
        for (int[] r : outside) {
            CHECK.refused("within" + java.util.Arrays.toString(r), x,
                    y -> y.within(r[0], r[1], r[2], r[3], r[4], r[5]), OUTSIDE);
        }
    }

    /** k = NONE tells how many, whatever is asked of them; a k that there is not is told NONE. */
    private static void whichSpan() {
        KeptMoving x = new KeptMoving();
        x.point(0, 3);
        x.point(20, -3);
        int[] nones = {2, 3, -2, MOST, LEAST};
        for (int what = 0; what <= 3; what++) {
            CHECK.due("near, how many, " + what, x.near(0, 1, 1, 9, NONE, what), 1);
            CHECK.due("first, how many, " + what, x.first(0, 9, NONE, what), 1);
            CHECK.due("within, how many, " + what, x.within(0, 4, 1, 9, NONE, what), 2);
            for (int k : nones) {
                CHECK.due("near, " + k + ", " + what, x.near(0, 1, 1, 9, k, what), NONE);
                CHECK.due("first, " + k + ", " + what, x.first(0, 9, k, what), NONE);
                CHECK.due("within, " + k + ", " + what, x.within(0, 4, 1, 9, k, what), NONE);
            }
            CHECK.due("near, 1, " + what, x.near(0, 1, 1, 9, 1, what), NONE);
            CHECK.due("first, 1, " + what, x.first(0, 9, 1, what), NONE);
        }
    }
}
