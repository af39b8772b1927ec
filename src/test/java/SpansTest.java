/** Promises 14 to 16: SPANS of NEAR, FIRST and WITHIN. */
final class SpansTest {
    private static final int NONE = KeptMoving.NONE;
    private static final int UNKNOWN = KeptMoving.UNKNOWN;
    private static final int OUTSIDE = KeptMoving.OUTSIDE;
    private static final int NOT = KeptMoving.NOT;
    private static final int MOST = Integer.MAX_VALUE;
    private static final int LEAST = Integer.MIN_VALUE;

    private static final Check CHECK = new Check("SpansTest");

    public static void main(String[] args) {
        promise14Near();
        promise14NearWhileThere();
        promise14Refusals();
        promise15First();
        promise15FirstWithRivals();
        promise15Refusals();
        promise16Within();
        promise16WithinWhileThere();
        promise16Refusals();
        whichSpan();
        nearJustOnce();
        nearByJustAsMuch();
        nearWhenItComesAndGoes();
        firstOfLikeOnes();
        withinOneAfterTheOther();
        withinAllTen();
        upToTheEnd();
        CHECK.end();
    }

    private static void near(Subject x, int width, int end, String want) {
        CHECK.dueText("near(0, 1, " + width + ", " + end + ")", Snapshot.near(x, 0, 1, width, end), want);
        CHECK.dueText("near(1, 0, " + width + ", " + end + ")", Snapshot.near(x, 1, 0, width, end), want);
    }

    private static void first(Subject x, int i, int end, String want) {
        CHECK.dueText("first(" + i + ", " + end + ")", Snapshot.first(x, i, end), want);
    }

    private static void within(Subject x, int low, int high, int m, int end, String want) {
        CHECK.dueText("within(" + low + ", " + high + ", " + m + ", " + end + ")",
                Snapshot.within(x, low, high, m, end), want);
    }

    private static void promise14Near() {
        Subject x = new Subject();
        x.point(0, 3);
        x.point(10, 0);
        near(x, 4, 600, "1: 2/1-14/3");
        near(x, 0, 600, "1: 10/3-10/3");
        near(x, 2000, 600, "1: 0/1-600/1");
        near(x, 10, 600, "1: 0/1-20/3");
        near(x, 4, 2, "1: 2/1-2/1");
        near(x, 4, 1, "0:");
        near(x, 4, 3, "1: 2/1-3/1");
        x.go(4);
        x.speed(0, 0);
        near(x, 2, 600, "1: 8/3-600/1");
        near(x, 1, 600, "1: 3/1-11/3");
        x.go(1);
        x.speed(0, -2);
        near(x, 1, 600, "2: 3/1-11/3 11/2-13/2");
        x.go(1);
        x.speed(0, 2);
        near(x, 0, 600, "2: 10/3-10/3 6/1-6/1");
        x.speed(0, 0);
        near(x, 0, 600, "2: 10/3-10/3 6/1-600/1");
    }

    private static void promise14NearWhileThere() {
        Subject x = new Subject();
        x.point(0, 0);
        x.go(3);
        x.point(2, -1);
        x.go(4);
        x.gone(1);
        near(x, 2, 600, "1: 3/1-7/1");
        near(x, 1, 600, "1: 4/1-6/1");
        near(x, 0, 600, "1: 5/1-5/1");
        near(x, 2, 3, "1: 3/1-3/1");
        near(x, 2, 2, "0:");
        near(x, 2, 7, "1: 3/1-7/1");
        x.back(1);
        x.gone(1);
        near(x, 1, 600, "1: 4/1-6/1");
        x.back(0);
        x.speed(1, -50);
        x.go(1);
        x.gone(1);
        near(x, 1, 6, "1: 4/1-6/1");
        x.back(2);
        x.gone(1);
        near(x, 0, 600, "0:");
        near(x, 1, 600, "1: 4/1-5/1");
    }

    private static void promise14Refusals() {
        Subject x = new Subject();
        x.point(0, 0);
        x.point(1, 0);
        int[][] unknown = {{0, 2, 0, 1, NONE, 0}, {2, 0, -1, 0, NONE, 9}, {-1, -1, 0, 1, 0, 0}, {2, 2, 0, 1, 0, 0}};
        int[][] outside = {{0, 1, -1, 1, NONE, 0}, {0, 1, 2001, 1, NONE, 0}, {0, 1, 0, 0, NONE, 0},
            {0, 1, 0, 601, NONE, 0}, {0, 1, 0, 1, NONE, 4}, {0, 1, 0, 1, NONE, -1}, {1, 1, 2001, 1, NONE, 0},
            {1, 1, 0, 0, NONE, 0}, {0, 0, 0, 1, NONE, 4}, {0, 1, MOST, MOST, MOST, MOST}, {0, 1, 0, 1, 9, 4}};
        int[][] not = {{0, 0, 0, 1, NONE, 0}, {1, 1, 2000, 600, 0, 3}, {1, 1, 0, 1, -7, 0}};
        refusedNear(x, unknown, UNKNOWN);
        refusedNear(x, outside, OUTSIDE);
        refusedNear(x, not, NOT);
    }

    private static void refusedNear(Subject x, int[][] rows, int want) {
        for (int[] r : rows) {
            CHECK.refused("near" + java.util.Arrays.toString(r), x,
                    y -> y.near(r[0], r[1], r[2], r[3], r[4], r[5]), want);
        }
    }

    private static void promise15First() {
        Subject x = new Subject();
        x.point(0, 2);
        first(x, 0, 600, "1: 0/1-600/1");
        x.point(5, 0);
        first(x, 0, 600, "1: 5/2-600/1");
        first(x, 1, 600, "1: 0/1-5/2");
        first(x, 0, 2, "0:");
        first(x, 0, 3, "1: 5/2-3/1");
        x.speed(0, 1);
        first(x, 0, 5, "1: 5/1-5/1");
        x.go(5);
        x.speed(0, 0);
        first(x, 0, 9, "1: 5/1-9/1");
        first(x, 1, 9, "1: 0/1-9/1");
        x.speed(0, -1);
        first(x, 0, 9, "1: 5/1-5/1");
        first(x, 1, 9, "1: 0/1-9/1");
        x.go(2);
        x.speed(0, 3);
        first(x, 0, 9, "2: 5/1-5/1 23/3-9/1");
        first(x, 1, 9, "1: 0/1-23/3");
    }

    private static void promise15FirstWithRivals() {
        Subject x = new Subject();
        x.go(1);
        x.point(0, 1);
        x.go(2);
        x.point(9, 0);
        x.go(3);
        x.gone(1);
        x.go(1);
        x.point(7, 0);
        x.go(4);
        x.gone(0);
        first(x, 0, 600, "3: 1/1-3/1 6/1-7/1 8/1-11/1");
        x.back(0);
        first(x, 0, 600, "3: 1/1-3/1 6/1-7/1 8/1-600/1");
        first(x, 1, 600, "1: 3/1-6/1");
        first(x, 2, 600, "1: 7/1-8/1");
        first(x, 2, 7, "1: 7/1-7/1");
        first(x, 2, 6, "0:");
        first(x, 0, 3, "1: 1/1-3/1");
        first(x, 0, 6, "2: 1/1-3/1 6/1-6/1");
        x.gone(0);
        first(x, 2, 600, "2: 7/1-8/1 11/1-600/1");
        x.gone(2);
        first(x, 2, 600, "1: 7/1-8/1");
    }

    private static void promise15Refusals() {
        Subject x = new Subject();
        CHECK.refused("first(0, 1, NONE, 0) without points", x, y -> y.first(0, 1, NONE, 0), UNKNOWN);
        x.point(0, 0);
        int[][] unknown = {{1, 0, NONE, 9}, {-1, 1, NONE, 0}, {MOST, 1, 0, 0}};
        int[][] outside = {{0, 0, NONE, 0}, {0, -1, NONE, 0}, {0, 601, NONE, 0}, {0, 1, NONE, 4}, {0, 1, NONE, -1},
            {0, 1, 9, 4}, {0, LEAST, LEAST, LEAST}};
        for (int[] r : unknown) {
            CHECK.refused("first" + java.util.Arrays.toString(r), x, y -> y.first(r[0], r[1], r[2], r[3]), UNKNOWN);
        }
        for (int[] r : outside) {
            CHECK.refused("first" + java.util.Arrays.toString(r), x, y -> y.first(r[0], r[1], r[2], r[3]), OUTSIDE);
        }
    }

    private static void promise16Within() {
        Subject x = new Subject();
        within(x, -60000, 60000, 1, 600, "0:");
        x.point(0, 3);
        x.point(20, -3);
        x.point(10, 0);
        within(x, 8, 12, 1, 600, "1: 0/1-600/1");
        within(x, 8, 12, 2, 600, "1: 8/3-4/1");
        within(x, 8, 12, 3, 600, "1: 8/3-4/1");
        within(x, 8, 12, 4, 600, "0:");
        within(x, 8, 12, 10, 600, "0:");
        within(x, 10, 10, 3, 600, "1: 10/3-10/3");
        within(x, 0, 4, 1, 600, "2: 0/1-4/3 16/3-20/3");
        within(x, 0, 8, 2, 600, "0:");
        within(x, 0, 10, 2, 600, "1: 0/1-20/3");
        within(x, 0, 10, 3, 600, "1: 10/3-10/3");
        within(x, -60000, 60000, 3, 600, "1: 0/1-600/1");
        within(x, 20, 60000, 1, 600, "2: 0/1-0/1 20/3-600/1");
        within(x, 20, 20, 1, 600, "2: 0/1-0/1 20/3-20/3");
        within(x, 20, 20, 1, 6, "1: 0/1-0/1");
        within(x, 1810, 1810, 1, 600, "0:");
        within(x, 1800, 1800, 1, 600, "1: 600/1-600/1");
        within(x, -1780, -1780, 1, 600, "1: 600/1-600/1");
    }

    private static void promise16WithinWhileThere() {
        Subject x = new Subject();
        x.point(0, 0);
        x.go(2);
        x.point(3, 0);
        x.go(2);
        x.gone(0);
        x.point(0, 0);
        within(x, 0, 3, 1, 600, "1: 0/1-600/1");
        within(x, 0, 3, 2, 600, "1: 2/1-600/1");
        within(x, 0, 3, 3, 600, "0:");
        within(x, 0, 2, 1, 600, "1: 0/1-600/1");
        within(x, 0, 2, 2, 600, "0:");
        x.go(2);
        x.speed(1, -1);
        x.speed(2, 1);
        within(x, 1, 2, 2, 600, "1: 7/1-8/1");
        within(x, 1, 2, 1, 600, "1: 7/1-8/1");
        x.go(2);
        x.gone(1);
        within(x, 1, 1, 1, 600, "1: 7/1-7/1");
        within(x, 2, 2, 1, 600, "2: 7/1-7/1 8/1-8/1");
        x.gone(2);
        within(x, 1, 1, 1, 600, "1: 7/1-7/1");
        within(x, 2, 2, 1, 600, "1: 7/1-7/1");
        within(x, 0, 3, 1, 600, "1: 0/1-8/1");
        within(x, 0, 3, 1, 8, "1: 0/1-8/1");
    }

    private static void promise16Refusals() {
        Subject x = new Subject();
        x.point(0, 0);
        int[][] outside = {{1, 0, 1, 1, NONE, 0}, {-60001, 0, 1, 1, NONE, 0}, {0, 60001, 1, 1, NONE, 0},
            {60001, 60001, 1, 1, NONE, 0}, {-60001, -60001, 1, 1, NONE, 0}, {0, 0, 0, 1, NONE, 0},
            {0, 0, 11, 1, NONE, 0}, {0, 0, 1, 0, NONE, 0}, {0, 0, 1, 601, NONE, 0}, {0, 0, 1, 1, NONE, 4},
            {0, 0, 1, 1, NONE, -1}, {0, 0, 1, 1, 9, 4}, {LEAST, MOST, MOST, MOST, MOST, MOST}};
        for (int[] r : outside) {
            CHECK.refused("within" + java.util.Arrays.toString(r), x,
                    y -> y.within(r[0], r[1], r[2], r[3], r[4], r[5]), OUTSIDE);
        }
    }

    /** k = NONE tells how many, whatever is asked of them; a k that there is not is told NONE. */
    private static void whichSpan() {
        Subject x = new Subject();
        x.point(0, 3);
        x.point(20, -3);
        int[] nones = {2, 3, -2, MOST, LEAST};
        for (int what = 0; what <= 3; what++) {
            CHECK.due("near, how many, " + what, x.near(0, 1, 1, 9, NONE, what), 1);
            CHECK.due("first, how many, " + what, x.first(0, 9, NONE, what), 1);
            CHECK.due("within, how many, " + what, x.within(0, 4, 1, 9, NONE, what), 2);
            for (int k : nones) {
                CHECK.due("near, " + k + ", " + what, x.near(0, 1, 1, 9, k, what), NONE);
                CHECK.due("first, " + k + ", " + what, x.first(0, 9, k, what), NONE);
                CHECK.due("within, " + k + ", " + what, x.within(0, 4, 1, 9, k, what), NONE);
            }
            CHECK.due("near, 1, " + what, x.near(0, 1, 1, 9, 1, what), NONE);
            CHECK.due("first, 1, " + what, x.first(0, 9, 1, what), NONE);
        }
    }

    /** A single time, in the middle, at 0 and at END, is a SPAN; a little less is none. */
    private static void nearJustOnce() {
        Subject x = new Subject();
        x.point(0, 1);
        x.point(6, 0);
        x.go(4);
        x.speed(0, -1);
        near(x, 2, 600, "1: 4/1-4/1");
        near(x, 1, 600, "0:");
        near(x, 3, 600, "1: 3/1-5/1");
        near(x, 2, 4, "1: 4/1-4/1");
        near(x, 2, 3, "0:");
        near(x, 6, 600, "1: 0/1-8/1");
        Subject apart = new Subject();
        apart.point(3, 50);
        apart.point(3, -50);
        near(apart, 0, 1, "1: 0/1-0/1");
        near(apart, 1, 600, "1: 0/1-1/100");
        near(apart, 2000, 600, "1: 0/1-20/1");
    }

    /** As they part by just the WIDTH and close again it is one SPAN; by more it is two, however little more. */
    private static void nearByJustAsMuch() {
        Subject x = new Subject();
        x.point(0, 0);
        x.point(1, 1);
        x.go(1);
        x.speed(1, 50);
        x.go(1);
        x.speed(1, -50);
        near(x, 52, 600, "1: 0/1-102/25");
        near(x, 51, 600, "2: 0/1-99/50 101/50-203/50");
        near(x, 2, 600, "2: 0/1-1/1 3/1-77/25");
    }

    /** Who comes just as near, going away, is so for a single time; who is GONE just then never is. */
    private static void nearWhenItComesAndGoes() {
        Subject x = new Subject();
        x.point(0, 0);
        x.go(2);
        x.point(5, 1);
        near(x, 5, 600, "1: 2/1-2/1");
        near(x, 4, 600, "0:");
        x.go(1);
        x.gone(1);
        near(x, 5, 600, "1: 2/1-2/1");
        near(x, 6, 600, "1: 2/1-3/1");
        x.back(1);
        x.point(5, -1);
        x.go(3);
        near(x, 2, 600, "1: 5/1-9/1");
        x.gone(1);
        near(x, 2, 600, "0:");
        near(x, 3, 600, "1: 4/1-5/1");
        x.back(0);
        x.go(1);
        x.gone(0);
        near(x, 2, 600, "1: 5/1-6/1");
    }

    /** No PLACE is above its, that is so for all like ones: a rival that comes or passes by alike ends nothing yet. */
    private static void firstOfLikeOnes() {
        Subject x = new Subject();
        x.point(5, 0);
        x.go(2);
        x.point(5, 0);
        x.point(4, 1);
        x.go(1);
        x.speed(2, 0);
        for (int i = 0; i < 3; i++) {
            first(x, i, 9, "1: " + new int[] {0, 2, 3}[i] + "/1-9/1");
        }
        x.speed(2, -1);
        first(x, 0, 9, "1: 0/1-9/1");
        first(x, 2, 9, "1: 3/1-3/1");
        x.speed(2, 1);
        first(x, 0, 9, "1: 0/1-3/1");
        first(x, 1, 9, "1: 2/1-3/1");
        first(x, 2, 9, "1: 3/1-9/1");
        x.go(1);
        x.gone(2);
        first(x, 0, 9, "2: 0/1-3/1 4/1-9/1");
        first(x, 2, 9, "1: 3/1-4/1");
        x.point(6, 0);
        first(x, 0, 9, "1: 0/1-3/1");
        first(x, 3, 9, "1: 4/1-9/1");
        x.back(1);
        x.gone(2);
        x.point(6, -1);
        first(x, 0, 9, "2: 0/1-3/1 4/1-9/1");
        first(x, 2, 9, "0:");
    }

    /** Who leaves at a time is in then, still: the next one may enter just then, and it is one SPAN. */
    private static void withinOneAfterTheOther() {
        Subject x = new Subject();
        x.point(5, 1);
        x.point(5, -1);
        x.point(7, 0);
        within(x, 5, 10, 2, 600, "1: 0/1-5/1");
        x.go(1);
        x.speed(1, 1);
        within(x, 5, 10, 1, 600, "1: 0/1-600/1");
        within(x, 5, 10, 3, 600, "2: 0/1-0/1 2/1-5/1");
        within(x, 4, 10, 3, 600, "1: 0/1-5/1");
        within(x, 8, 10, 1, 600, "1: 3/1-7/1");
        within(x, 8, 10, 2, 600, "1: 5/1-5/1");
        within(x, 8, 9, 1, 600, "2: 3/1-4/1 5/1-6/1");
        x.speed(2, 2);
        within(x, 9, 11, 1, 600, "2: 2/1-3/1 4/1-8/1");
        x.gone(2);
        x.go(2);
        x.gone(0);
        x.point(10, 0);
        within(x, 8, 10, 1, 600, "1: 3/1-600/1");
        within(x, 9, 10, 1, 600, "1: 3/1-600/1");
        within(x, 7, 9, 1, 600, "3: 0/1-1/1 2/1-3/1 4/1-6/1");
    }

    private static void withinAllTen() {
        Subject x = new Subject();
        for (int i = 0; i < 10; i++) {
            x.point(i, i < 9 ? 0 : 1);
        }
        within(x, 0, 9, 10, 600, "1: 0/1-0/1");
        within(x, 0, 10, 10, 600, "1: 0/1-1/1");
        within(x, 0, 8, 10, 600, "0:");
        within(x, 1, 9, 9, 600, "1: 0/1-0/1");
        within(x, 0, 9, 9, 600, "1: 0/1-600/1");
        x.go(1);
        x.gone(0);
        within(x, 0, 10, 10, 600, "1: 0/1-1/1");
        within(x, 0, 60000, 10, 600, "1: 0/1-1/1");
        within(x, 0, 60000, 9, 600, "1: 0/1-600/1");
    }

    /** END itself is asked, too, in the PAST and above NOW; what comes behind it is not. */
    private static void upToTheEnd() {
        Subject x = new Subject();
        x.point(0, 1);
        x.point(10, -1);
        x.go(3);
        near(x, 4, 1, "0:");
        near(x, 4, 2, "0:");
        near(x, 4, 3, "1: 3/1-3/1");
        near(x, 4, 4, "1: 3/1-4/1");
        near(x, 4, 7, "1: 3/1-7/1");
        near(x, 4, 8, "1: 3/1-7/1");
        first(x, 0, 4, "0:");
        first(x, 0, 5, "1: 5/1-5/1");
        first(x, 1, 1, "1: 0/1-1/1");
        first(x, 1, 5, "1: 0/1-5/1");
        first(x, 1, 6, "1: 0/1-5/1");
        within(x, 4, 6, 2, 3, "0:");
        within(x, 4, 6, 2, 4, "1: 4/1-4/1");
        within(x, 4, 6, 2, 6, "1: 4/1-6/1");
        within(x, 4, 6, 2, 7, "1: 4/1-6/1");
        x.gone(0);
        near(x, 4, 3, "0:");
        near(x, 5, 3, "1: 5/2-3/1");
        first(x, 0, 3, "0:");
        within(x, -9, 9, 2, 3, "1: 1/1-3/1");
        within(x, -9, 9, 2, 4, "1: 1/1-3/1");
        x.point(7, 0);
        within(x, 7, 7, 1, 3, "1: 3/1-3/1");
        within(x, 7, 7, 2, 3, "1: 3/1-3/1");
    }
}
