import java.util.function.Supplier;
import java.util.function.ToLongFunction;

/**
 * Where two refusals could hold at once, the first in the order UNKNOWN, OUTSIDE, NOT, FULL is answered; that each of
 * the two would hold alone is looked at, too. What is refused changes nothing.
 */
final class RefusalsTest {
    private static final int NONE = KeptMoving.NONE;
    private static final int UNKNOWN = KeptMoving.UNKNOWN;
    private static final int OUTSIDE = KeptMoving.OUTSIDE;
    private static final int NOT = KeptMoving.NOT;
    private static final int FULL = KeptMoving.FULL;

    private static final Check CHECK = new Check("RefusalsTest");

    public static void main(String[] args) {
        point();
        speed();
        speedWhenGone();
        gone();
        go();
        back();
        told();
        place();
        near();
        first();
        outsideWhereNothingIs();
        whatWasTakenBack();
        CHECK.end();
    }

    private static void refused(String call, Supplier<Subject> made, long want, ToLongFunction<KeptMoving> asking) {
        CHECK.refused(call, made.get(), asking, want);
    }

    /** Ten POINTS; of 0 all 8 PIECES, the latest of them begun at 7; NOW is 9. */
    private static Subject full() {
        Subject x = new Subject();
        for (int i = 0; i < 10; i++) {
            x.point(i, 0);
        }
        for (int piece = 2; piece <= 8; piece++) {
            x.go(1);
            x.speed(0, piece);
        }
        x.go(2);
        return x;
    }

    /** As full, with 0 GONE at 9. */
    private static Subject fullAndGone() {
        Subject x = full();
        x.gone(0);
        return x;
    }

    /** POINT 0 from 3 to 8, POINT 1 from 5 on; NOW is 10. */
    private static Subject some() {
        Subject x = new Subject();
        x.go(3);
        x.point(4, 1);
        x.go(2);
        x.point(9, -1);
        x.go(3);
        x.gone(0);
        x.go(2);
        return x;
    }

    private static Subject atTheLast() {
        Subject x = some();
        for (int now = 110; now <= 310; now += 100) {
            x.go(100);
        }
        x.go(90);
        return x;
    }

    private static void point() {
        refused("point(0, 0), FULL", RefusalsTest::full, FULL, x -> x.point(0, 0));
        refused("point(1001, 0), OUTSIDE and FULL", RefusalsTest::full, OUTSIDE, x -> x.point(1001, 0));
        refused("point(-1001, 0), OUTSIDE and FULL", RefusalsTest::full, OUTSIDE, x -> x.point(-1001, 0));
        refused("point(0, 51), OUTSIDE and FULL", RefusalsTest::full, OUTSIDE, x -> x.point(0, 51));
        refused("point(0, -51), OUTSIDE and FULL", RefusalsTest::full, OUTSIDE, x -> x.point(0, -51));
        refused("point(0, 51), OUTSIDE", RefusalsTest::some, OUTSIDE, x -> x.point(0, 51));
    }

    private static void speed() {
        refused("speed(10, 1), UNKNOWN", RefusalsTest::full, UNKNOWN, x -> x.speed(10, 1));
        refused("speed(10, 51), UNKNOWN and OUTSIDE", RefusalsTest::full, UNKNOWN, x -> x.speed(10, 51));
        refused("speed(-1, -51), UNKNOWN and OUTSIDE", RefusalsTest::full, UNKNOWN, x -> x.speed(-1, -51));
        refused("speed(1, 51), OUTSIDE", RefusalsTest::full, OUTSIDE, x -> x.speed(1, 51));
        refused("speed(0, 1), FULL", RefusalsTest::full, FULL, x -> x.speed(0, 1));
        refused("speed(0, 51), OUTSIDE and FULL", RefusalsTest::full, OUTSIDE, x -> x.speed(0, 51));
        refused("speed(0, -51), OUTSIDE and FULL", RefusalsTest::full, OUTSIDE, x -> x.speed(0, -51));
    }

    private static void speedWhenGone() {
        refused("speed(0, 1), NOT", RefusalsTest::some, NOT, x -> x.speed(0, 1));
        refused("speed(0, 51), OUTSIDE and NOT", RefusalsTest::some, OUTSIDE, x -> x.speed(0, 51));
        refused("speed(0, -51), OUTSIDE and NOT", RefusalsTest::some, OUTSIDE, x -> x.speed(0, -51));
        refused("speed(0, 1), NOT and FULL", RefusalsTest::fullAndGone, NOT, x -> x.speed(0, 1));
        refused("speed(0, 51), OUTSIDE, NOT and FULL", RefusalsTest::fullAndGone, OUTSIDE, x -> x.speed(0, 51));
        refused("speed(10, 51), UNKNOWN and OUTSIDE", RefusalsTest::fullAndGone, UNKNOWN, x -> x.speed(10, 51));
    }

    private static void gone() {
        refused("gone(2), UNKNOWN", RefusalsTest::some, UNKNOWN, x -> x.gone(2));
        refused("gone(0), NOT: it is", RefusalsTest::some, NOT, x -> x.gone(0));
        refused("gone(0), NOT: it is, from NOW on", RefusalsTest::fullAndGone, NOT, x -> x.gone(0));
        Supplier<Subject> withNew = () -> {
            Subject x = some();
            x.point(0, 0);
            return x;
        };
        refused("gone(2), NOT: it came at NOW", withNew, NOT, x -> x.gone(2));
    }

    private static void go() {
        refused("go(1), NOT", RefusalsTest::atTheLast, NOT, x -> x.go(1));
        refused("go(100), NOT", RefusalsTest::atTheLast, NOT, x -> x.go(100));
        refused("go(101), OUTSIDE and NOT", RefusalsTest::atTheLast, OUTSIDE, x -> x.go(101));
        refused("go(most), OUTSIDE and NOT", RefusalsTest::atTheLast, OUTSIDE, x -> x.go(Integer.MAX_VALUE));
        refused("go(-1), OUTSIDE", RefusalsTest::atTheLast, OUTSIDE, x -> x.go(-1));
        refused("go(101), OUTSIDE", RefusalsTest::some, OUTSIDE, x -> x.go(101));
    }

    private static void back() {
        refused("back(11), NOT", RefusalsTest::some, NOT, x -> x.back(11));
        refused("back(100), NOT", RefusalsTest::some, NOT, x -> x.back(100));
        refused("back(101), OUTSIDE and NOT", RefusalsTest::some, OUTSIDE, x -> x.back(101));
        refused("back(most), OUTSIDE and NOT", RefusalsTest::some, OUTSIDE, x -> x.back(Integer.MAX_VALUE));
        refused("back(-1), OUTSIDE", RefusalsTest::some, OUTSIDE, x -> x.back(-1));
        refused("back(101), OUTSIDE", RefusalsTest::atTheLast, OUTSIDE, x -> x.back(101));
    }

    private static void told() {
        refused("told(2, 0), UNKNOWN", RefusalsTest::some, UNKNOWN, x -> x.told(2, 0));
        refused("told(2, 4), UNKNOWN and OUTSIDE", RefusalsTest::some, UNKNOWN, x -> x.told(2, 4));
        refused("told(-1, -1), UNKNOWN and OUTSIDE", RefusalsTest::some, UNKNOWN, x -> x.told(-1, -1));
        refused("told(1, 4), OUTSIDE", RefusalsTest::some, OUTSIDE, x -> x.told(1, 4));
    }

    private static void place() {
        int[][] outside = {{-1, 1, 0}, {601, 1, 0}, {5, 0, 0}, {5, 201, 0}, {5, -1, 0}, {5, 1, 2}, {5, 1, -1}};
        for (int[] r : outside) {
            String numbers = r[0] + ", " + r[1] + ", " + r[2];
            refused("place(2, " + numbers + "), UNKNOWN and OUTSIDE", RefusalsTest::some, UNKNOWN,
                    x -> x.place(2, r[0], r[1], r[2]));
            refused("place(1, " + numbers + "), OUTSIDE", RefusalsTest::some, OUTSIDE,
                    x -> x.place(1, r[0], r[1], r[2]));
        }
        refused("place(0, 2, 1, 0), NOT yet", RefusalsTest::some, NOT, x -> x.place(0, 2, 1, 0));
        refused("place(0, 2, 1, 2), OUTSIDE and NOT yet", RefusalsTest::some, OUTSIDE, x -> x.place(0, 2, 1, 2));
        refused("place(0, -1, 1, 0), OUTSIDE and NOT yet", RefusalsTest::some, OUTSIDE, x -> x.place(0, -1, 1, 0));
        refused("place(0, 2, 201, 0), OUTSIDE and NOT yet", RefusalsTest::some, OUTSIDE, x -> x.place(0, 2, 201, 0));
        refused("place(0, 8, 1, 0), NOT any more", RefusalsTest::some, NOT, x -> x.place(0, 8, 1, 0));
        refused("place(0, 8, 1, -1), OUTSIDE and NOT any more", RefusalsTest::some, OUTSIDE, x -> x.place(0, 8, 1, -1));
        refused("place(0, 601, 1, 0), OUTSIDE and NOT any more", RefusalsTest::some, OUTSIDE, x -> x.place(0, 601, 1, 0));
        refused("place(0, 9, 0, 0), OUTSIDE and NOT any more", RefusalsTest::some, OUTSIDE, x -> x.place(0, 9, 0, 0));
    }

    private static void near() {
        int[][] outside = {{-1, 9, 0}, {2001, 9, 0}, {4, 0, 0}, {4, 601, 0}, {4, 9, -1}, {4, 9, 4}};
        for (int[] r : outside) {
            for (int k = NONE; k <= 1; k++) {
                int asked = k;
                String numbers = r[0] + ", " + r[1] + ", " + k + ", " + r[2];
                refused("near(0, 2, " + numbers + "), UNKNOWN and OUTSIDE", RefusalsTest::some, UNKNOWN,
                        x -> x.near(0, 2, r[0], r[1], asked, r[2]));
                refused("near(-1, 0, " + numbers + "), UNKNOWN and OUTSIDE", RefusalsTest::some, UNKNOWN,
                        x -> x.near(-1, 0, r[0], r[1], asked, r[2]));
                refused("near(2, 2, " + numbers + "), UNKNOWN, OUTSIDE and NOT", RefusalsTest::some, UNKNOWN,
                        x -> x.near(2, 2, r[0], r[1], asked, r[2]));
                refused("near(1, 1, " + numbers + "), OUTSIDE and NOT", RefusalsTest::some, OUTSIDE,
                        x -> x.near(1, 1, r[0], r[1], asked, r[2]));
                refused("near(0, 1, " + numbers + "), OUTSIDE", RefusalsTest::some, OUTSIDE,
                        x -> x.near(0, 1, r[0], r[1], asked, r[2]));
            }
        }
        refused("near(2, 2, 4, 9, 0, 0), UNKNOWN and NOT", RefusalsTest::some, UNKNOWN, x -> x.near(2, 2, 4, 9, 0, 0));
        refused("near(-1, -1, 4, 9, 0, 0), UNKNOWN and NOT", RefusalsTest::some, UNKNOWN, x -> x.near(-1, -1, 4, 9, 0, 0));
        refused("near(0, 0, 4, 9, 0, 0), NOT", RefusalsTest::some, NOT, x -> x.near(0, 0, 4, 9, 0, 0));
        refused("near(1, 1, 0, 1, NONE, 3), NOT", RefusalsTest::some, NOT, x -> x.near(1, 1, 0, 1, NONE, 3));
    }

    private static void first() {
        int[][] outside = {{0, 0}, {601, 0}, {9, -1}, {9, 4}};
        for (int[] r : outside) {
            for (int k = NONE; k <= 1; k++) {
                int asked = k;
                String numbers = r[0] + ", " + k + ", " + r[1];
                refused("first(2, " + numbers + "), UNKNOWN and OUTSIDE", RefusalsTest::some, UNKNOWN,
                        x -> x.first(2, r[0], asked, r[1]));
                refused("first(-1, " + numbers + "), UNKNOWN and OUTSIDE", RefusalsTest::some, UNKNOWN,
                        x -> x.first(-1, r[0], asked, r[1]));
                refused("first(1, " + numbers + "), OUTSIDE", RefusalsTest::some, OUTSIDE,
                        x -> x.first(1, r[0], asked, r[1]));
            }
        }
    }

    /** OUTSIDE, too, where nothing is there that could be told: without POINTS, with a k that there is not. */
    private static void outsideWhereNothingIs() {
        refused("count(6) of a new one", Subject::new, OUTSIDE, x -> x.count(6));
        refused("order(601, 1, -1)", Subject::new, OUTSIDE, x -> x.order(601, 1, -1));
        refused("order(0, 0, 9)", Subject::new, OUTSIDE, x -> x.order(0, 0, 9));
        refused("at(0, 1, 5, 0) of a new one", Subject::new, OUTSIDE, x -> x.at(0, 1, 5, 0));
        refused("at(0, 1, 1, 2001) of a new one", Subject::new, OUTSIDE, x -> x.at(0, 1, 1, 2001));
        refused("meeting(7, 4) of a new one", Subject::new, OUTSIDE, x -> x.meeting(7, 4));
        refused("meeting(NONE, -1) of a new one", Subject::new, OUTSIDE, x -> x.meeting(NONE, -1));
        refused("within(1, 0, 1, 9, 7, 0)", Subject::new, OUTSIDE, x -> x.within(1, 0, 1, 9, 7, 0));
        refused("within(0, 1, 0, 9, 7, 0)", Subject::new, OUTSIDE, x -> x.within(0, 1, 0, 9, 7, 0));
        refused("within(0, 1, 1, 0, 7, 0)", Subject::new, OUTSIDE, x -> x.within(0, 1, 1, 0, 7, 0));
        refused("within(0, 1, 1, 9, 7, 4)", Subject::new, OUTSIDE, x -> x.within(0, 1, 1, 9, 7, 4));
        refused("point(1001, -51)", Subject::new, OUTSIDE, x -> x.point(1001, -51));
    }

    /** What came and was taken back is not there: UNKNOWN, though it was FULL or GONE. */
    private static void whatWasTakenBack() {
        Supplier<Subject> made = () -> {
            Subject x = fullAndGone();
            x.back(9);
            return x;
        };
        refused("speed(0, 1), taken back", made, UNKNOWN, x -> x.speed(0, 1));
        refused("gone(0), taken back", made, UNKNOWN, x -> x.gone(0));
        refused("told(9, 0), taken back", made, UNKNOWN, x -> x.told(9, 0));
        refused("place(0, 5, 1, 0), taken back", made, UNKNOWN, x -> x.place(0, 5, 1, 0));
        refused("near(0, 1, 9, 9, NONE, 0), taken back", made, UNKNOWN, x -> x.near(0, 1, 9, 9, NONE, 0));
        refused("first(9, 9, NONE, 0), taken back", made, UNKNOWN, x -> x.first(9, 9, NONE, 0));
    }
}
