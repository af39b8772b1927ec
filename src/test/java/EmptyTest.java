/** Where nothing is there: not yet, not any more as all was taken back, or all being GONE. */
final class EmptyTest {
    private static final int NONE = KeptMoving.NONE;
    private static final int UNKNOWN = KeptMoving.UNKNOWN;
    private static final int NOT = KeptMoving.NOT;
    private static final int[] SOME_K = {Integer.MIN_VALUE, -2, NONE, 0, 1, 9, 10, Integer.MAX_VALUE};

    private static final Check CHECK = new Check("EmptyTest");

    public static void main(String[] args) {
        notYet();
        notYetLater();
        takenBack();
        allGone();
        beforeAndAfter();
        onlyOne();
        CHECK.end();
    }

    private static void notYet() {
        Subject x = new Subject();
        nothingCame(x, 0);
        CHECK.due("go(0)", x.go(0), 0);
        nothingCame(x, 0);
        CHECK.due("back(0)", x.back(0), 0);
        nothingCame(x, 0);
    }

    private static void notYetLater() {
        Subject x = new Subject();
        x.go(7);
        nothingCame(x, 7);
        CHECK.due("the first POINT", x.point(0, 0), 0);
        CHECK.due("back to just when it came", x.back(0), 7);
        nothingCame(x, 7);
    }

    private static void takenBack() {
        Subject x = new Subject();
        x.point(0, 2);
        x.point(9, -1);
        x.go(1);
        x.speed(0, 5);
        x.go(9);
        x.gone(1);
        CHECK.due("a MEETING", x.count(3), 1);
        CHECK.due("back to 0", x.back(10), 0);
        nothingCame(x, 0);
    }

    private static void nothingCame(Subject x, int now) {
        CHECK.due("NOW", x.count(0), now);
        CHECK.due("POINTS that came", x.count(1), 0);
        for (int i : new int[] {-1, 0, 9, Integer.MAX_VALUE}) {
            CHECK.due("speed(" + i + ", 0)", x.speed(i, 0), UNKNOWN);
            CHECK.due("gone(" + i + ")", x.gone(i), UNKNOWN);
            CHECK.due("told(" + i + ", 0)", x.told(i, 0), UNKNOWN);
            CHECK.due("place(" + i + ", 0, 1, 0)", x.place(i, 0, 1, 0), UNKNOWN);
            CHECK.due("near(" + i + ", 0, ..)", x.near(i, 0, 0, 1, NONE, 0), UNKNOWN);
            CHECK.due("near(0, " + i + ", ..)", x.near(0, i, 0, 1, NONE, 0), UNKNOWN);
            CHECK.due("first(" + i + ", ..)", x.first(i, 1, NONE, 0), UNKNOWN);
        }
        nothingThere(x, now, 1);
        nothingThere(x, 0, 1);
        nothingThere(x, 0, 200);
        nothingThere(x, 600, 1);
        nothingThere(x, 120000, 200);
        noMeeting(x);
        neverWithin(x);
    }

    /** Nothing NOW, nor at n / d. */
    private static void nothingThere(Subject x, int n, int d) {
        CHECK.due("how many are there NOW", x.count(2), 0);
        CHECK.due("WATCHED pairs", x.count(5), 0);
        for (int k : SOME_K) {
            CHECK.due("kept(" + k + ")", x.kept(k), NONE);
            CHECK.due("order(" + n + ", " + d + ", " + k + ")", x.order(n, d, k), NONE);
        }
        int[] dues = {0, NONE, NONE, NONE, 0};
        for (int what = 0; what <= 4; what++) {
            CHECK.due("at(" + n + ", " + d + ", " + what + ", 0)", x.at(n, d, what, 0), dues[what]);
            CHECK.due("at(" + n + ", " + d + ", " + what + ", 2000)", x.at(n, d, what, 2000), dues[what]);
        }
    }

    private static void noMeeting(Subject x) {
        CHECK.due("MEETINGS", x.count(3), 0);
        CHECK.due("PASSES", x.count(4), 0);
        for (int k : SOME_K) {
            for (int what = 0; what <= 3; what++) {
                CHECK.due("meeting(" + k + ", " + what + ")", x.meeting(k, what), NONE);
            }
        }
    }

    private static void neverWithin(Subject x) {
        for (int m = 1; m <= 10; m += 9) {
            CHECK.dueText("within, " + m + " of none", Snapshot.within(x, -60000, 60000, m, 600), "0:");
            for (int k : SOME_K) {
                int due = k == NONE ? 0 : NONE;
                CHECK.due("within, " + m + " of none, " + k, x.within(-60000, 60000, m, 600, k, 3), due);
            }
        }
    }

    /** They are known still, and all that they did while they were there is told. */
    private static void allGone() {
        Subject x = new Subject();
        x.point(0, 1);
        x.point(4, -1);
        x.go(3);
        x.gone(0);
        x.gone(1);
        nothingThere(x, 3, 1);
        nothingThere(x, 600, 1);
        CHECK.due("POINTS that came", x.count(1), 2);
        CHECK.dueText("MEETINGS", Snapshot.meetings(x), "1: 2/1 0 1");
        CHECK.dueText("none next", Snapshot.meeting(x, NONE), "-1/-1 -1 -1");
        CHECK.due("place when GONE", x.place(0, 3, 1, 0), NOT);
        CHECK.dueText("near", Snapshot.near(x, 0, 1, 2000, 600), "1: 0/1-3/1");
        CHECK.dueText("first", Snapshot.first(x, 1, 600), "1: 0/1-2/1");
        CHECK.dueText("within", Snapshot.within(x, -60000, 60000, 2, 600), "1: 0/1-3/1");
        x.go(1);
        nothingThere(x, 4, 1);
        nothingThere(x, 600, 200);
        CHECK.due("one more", x.point(8, 0), 2);
        CHECK.due("it alone is there", x.count(2), 1);
        CHECK.due("it alone is kept", x.kept(0), 2);
    }

    /** Between the one and the other one, and before both, nothing is there. */
    private static void beforeAndAfter() {
        Subject x = new Subject();
        x.go(2);
        x.point(0, 1);
        x.go(2);
        x.gone(0);
        x.go(2);
        x.point(9, 0);
        int[][] rows = {{0, 1, 0}, {399, 200, 0}, {2, 1, 1}, {799, 200, 1}, {4, 1, 0}, {1199, 200, 0}, {6, 1, 1}};
        for (int[] r : rows) {
            CHECK.due("how many at " + r[0] + " / " + r[1], x.at(r[0], r[1], 0, 0), r[2]);
            CHECK.due("HEAPS at " + r[0] + " / " + r[1], x.at(r[0], r[1], 4, 0), r[2]);
        }
        CHECK.dueText("never both", Snapshot.near(x, 0, 1, 2000, 600), "0:");
        CHECK.dueText("FIRST the one", Snapshot.first(x, 0, 600), "1: 2/1-4/1");
        CHECK.dueText("FIRST the other one", Snapshot.first(x, 1, 600), "1: 6/1-600/1");
        CHECK.dueText("any", Snapshot.within(x, -60000, 60000, 1, 600), "2: 2/1-4/1 6/1-600/1");
        noMeeting(x);
    }

    /** One is FOREMOST, a HEAP and FIRST, but no pair. */
    private static void onlyOne() {
        Subject x = new Subject();
        x.point(-3, 1);
        int[] counts = {0, 1, 1, 0, 0, 0};
        for (int what = 0; what <= 5; what++) {
            CHECK.due("count(" + what + ") of one", x.count(what), counts[what]);
        }
        int[] dues = {1, 0, NONE, NONE, 1};
        for (int what = 0; what <= 4; what++) {
            CHECK.due("at(0, 1, " + what + ", 0) of one", x.at(0, 1, what, 0), dues[what]);
        }
        noMeeting(x);
        CHECK.due("near(0, 0, ..) of one", x.near(0, 0, 0, 1, NONE, 0), NOT);
        CHECK.due("near(0, 1, ..) of one", x.near(0, 1, 0, 1, NONE, 0), UNKNOWN);
        CHECK.dueText("first of one", Snapshot.first(x, 0, 1), "1: 0/1-1/1");
        CHECK.dueText("two within of one", Snapshot.within(x, -60000, 60000, 2, 600), "0:");
    }
}
