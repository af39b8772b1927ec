/** Promises 9 to 12: PLACES, ORDER, THE KEPT ORDER, FOREMOST, CLOSEST and HEAPS at MOMENTS. */
final class MomentsTest {
    private static final int NONE = KeptMoving.NONE;
    private static final int UNKNOWN = KeptMoving.UNKNOWN;
    private static final int OUTSIDE = KeptMoving.OUTSIDE;
    private static final int NOT = KeptMoving.NOT;
    private static final int MOST = Integer.MAX_VALUE;
    private static final int LEAST = Integer.MIN_VALUE;

    private static final Check CHECK = new Check("MomentsTest");

    public static void main(String[] args) {
        promise9Place();
        promise9Refusals();
        promise10Order();
        promise11Kept();
        promise12At();
        promise12Closest();
        promise12Heaps();
        promise12Refusals();
        pastAndForetold();
        tenAlike();
        asFarAsCanBe();
        CHECK.end();
    }

    private static void place(Subject x, int i, int n, int d, long upper, long lower) {
        CHECK.due("place(" + i + ", " + n + ", " + d + ", 0)", x.place(i, n, d, 0), upper);
        CHECK.due("place(" + i + ", " + n + ", " + d + ", 1)", x.place(i, n, d, 1), lower);
    }

    private static void promise9Place() {
        Subject x = new Subject();
        x.go(2);
        x.point(-3, 2);
        x.go(4);
        x.speed(0, -5);
        place(x, 0, 2, 1, -3, 1);
        place(x, 0, 7, 2, 0, 1);
        place(x, 0, 700, 200, 0, 1);
        place(x, 0, 9, 4, -5, 2);
        place(x, 0, 6, 1, 5, 1);
        place(x, 0, 13, 2, 5, 2);
        place(x, 0, 8, 1, -5, 1);
        place(x, 0, 1201, 200, 199, 40);
        place(x, 0, 120000, 200, -2965, 1);
        place(x, 0, 119999, 200, -118599, 40);
    }

    private static void promise9Refusals() {
        Subject x = new Subject();
        x.go(2);
        x.point(0, 1);
        CHECK.due("before it came", x.place(0, 399, 200, 0), NOT);
        CHECK.due("when it came", x.place(0, 400, 200, 0), 0);
        CHECK.due("no such point", x.place(1, -1, 0, 7), UNKNOWN);
        CHECK.due("no such point", x.place(-1, 2, 1, 0), UNKNOWN);
        int[][] outside = {{-1, 1, 0}, {601, 1, 0}, {120001, 200, 0}, {2, 0, 0}, {2, 201, 0}, {2, -1, 0}, {-2, -1, 0},
            {2, 1, 2}, {2, 1, -1}, {MOST, MOST, 0}, {LEAST, LEAST, 0}, {MOST, 1, 0}, {LEAST, 200, 0}, {0, 1, 2}};
        for (int[] row : outside) {
            CHECK.refused("place(0, " + row[0] + ", " + row[1] + ", " + row[2] + ")", x,
                    y -> y.place(0, row[0], row[1], row[2]), OUTSIDE);
        }
        CHECK.refused("place not there", x, y -> y.place(0, 0, 1, 0), NOT);
    }

    private static void order(Subject x, int n, int d, int... wants) {
        for (int k = 0; k < wants.length; k++) {
            CHECK.due("order(" + n + ", " + d + ", " + k + ")", x.order(n, d, k), wants[k]);
        }
        CHECK.due("order behind the last", x.order(n, d, wants.length), NONE);
    }

    private static void promise10Order() {
        Subject x = new Subject();
        x.point(10, -1);
        x.point(0, 1);
        x.point(5, 0);
        x.go(3);
        x.point(5, 0);
        x.go(4);
        x.gone(2);
        order(x, 0, 1, 1, 2, 0);
        order(x, 3, 1, 1, 2, 3, 0);
        order(x, 999, 200, 1, 2, 3, 0);
        order(x, 5, 1, 0, 1, 2, 3);
        order(x, 1001, 200, 0, 2, 3, 1);
        order(x, 7, 1, 0, 3, 1);
        order(x, 600, 1, 0, 3, 1);
        CHECK.due("order(0, 1, -1)", x.order(0, 1, -1), NONE);
        CHECK.due("order(0, 1, least)", x.order(0, 1, LEAST), NONE);
        CHECK.due("order(0, 1, most)", x.order(0, 1, MOST), NONE);
        CHECK.refused("order(-1, 1, 0)", x, y -> y.order(-1, 1, 0), OUTSIDE);
        CHECK.refused("order(601, 1, 0)", x, y -> y.order(601, 1, 0), OUTSIDE);
        CHECK.refused("order(1, 0, 0)", x, y -> y.order(1, 0, 0), OUTSIDE);
        CHECK.refused("order(1, 201, 0)", x, y -> y.order(1, 201, 0), OUTSIDE);
    }

    private static void kept(Subject x, int... wants) {
        for (int k = 0; k < wants.length; k++) {
            CHECK.due("kept(" + k + ") at " + x.count(0), x.kept(k), wants[k]);
        }
        CHECK.due("kept behind the last", x.kept(wants.length), NONE);
        CHECK.due("WATCHED pairs", x.count(5), Math.max(wants.length - 1, 0));
    }

    private static void promise11Kept() {
        Subject x = new Subject();
        kept(x);
        x.point(10, -1);
        kept(x, 0);
        x.point(0, 1);
        x.point(5, 0);
        kept(x, 1, 2, 0);
        x.go(5);
        kept(x, 0, 1, 2);
        x.go(1);
        kept(x, 0, 2, 1);
        x.gone(2);
        kept(x, 0, 1);
        x.back(0);
        kept(x, 0, 2, 1);
        x.back(6);
        kept(x);
        CHECK.due("kept(-1)", x.kept(-1), NONE);
        CHECK.due("kept(10)", x.kept(10), NONE);
        CHECK.due("kept(most)", x.kept(MOST), NONE);
        CHECK.due("kept(least)", x.kept(LEAST), NONE);
    }

    private static void at(Subject x, int n, int d, int there, int foremost, int one, int other) {
        int[] wants = {there, foremost, one, other};
        for (int what = 0; what <= 3; what++) {
            CHECK.due("at(" + n + ", " + d + ", " + what + ", 0)", x.at(n, d, what, 0), wants[what]);
        }
    }

    private static void promise12At() {
        Subject x = new Subject();
        at(x, 0, 1, 0, NONE, NONE, NONE);
        x.go(1);
        x.point(0, 2);
        at(x, 0, 1, 0, NONE, NONE, NONE);
        at(x, 1, 1, 1, 0, NONE, NONE);
        x.go(1);
        x.point(7, 0);
        x.go(2);
        x.gone(0);
        at(x, 399, 200, 1, 0, NONE, NONE);
        at(x, 2, 1, 2, 1, 0, 1);
        at(x, 799, 200, 2, 1, 0, 1);
        at(x, 4, 1, 1, 1, NONE, NONE);
        x.back(0);
        at(x, 9, 2, 2, 1, 0, 1);
        at(x, 10, 2, 2, 0, 1, 0);
    }

    private static void promise12Closest() {
        Subject x = new Subject();
        x.point(20, 0);
        x.point(0, 0);
        x.point(10, 0);
        x.point(13, 3);
        at(x, 0, 1, 4, 0, 2, 3);
        at(x, 1, 1, 4, 0, 3, 0);
        at(x, 2, 3, 4, 0, 2, 3);
        at(x, 133, 200, 4, 0, 2, 3);
        at(x, 134, 200, 4, 0, 3, 0);
        x.point(20, 0);
        at(x, 0, 1, 5, 4, 0, 4);
        x.point(0, 0);
        at(x, 0, 1, 6, 4, 1, 5);
        x.point(20, 0);
        at(x, 0, 1, 7, 6, 1, 5);
    }

    private static void promise12Heaps() {
        Subject x = new Subject();
        CHECK.due("HEAPS without points", x.at(0, 1, 4, 0), 0);
        x.point(-1000, 0);
        CHECK.due("HEAPS of one", x.at(0, 1, 4, 0), 1);
        x.point(1000, 1);
        x.point(5, 0);
        x.point(8, 0);
        x.point(8, 0);
        int[][] rows = {{0, 1, 0, 4}, {0, 1, 2, 4}, {0, 1, 3, 3}, {0, 1, 992, 2}, {0, 1, 991, 3}, {0, 1, 1005, 1},
            {0, 1, 1004, 2}, {1, 200, 992, 3}, {200, 200, 993, 2}, {201, 200, 993, 3}, {600, 1, 2000, 1}};
        for (int[] row : rows) {
            CHECK.due("at(" + row[0] + ", " + row[1] + ", 4, " + row[2] + ")", x.at(row[0], row[1], 4, row[2]), row[3]);
        }
    }

    private static void promise12Refusals() {
        Subject x = new Subject();
        x.point(0, 0);
        int[][] outside = {{-1, 1, 0, 0}, {601, 1, 0, 0}, {0, 0, 0, 0}, {0, 201, 0, 0}, {0, 1, -1, 0}, {0, 1, 5, 0},
            {0, 1, 0, -1}, {0, 1, 0, 2001}, {0, 1, 4, 2001}, {MOST, MOST, MOST, MOST}, {LEAST, LEAST, LEAST, LEAST}};
        for (int[] row : outside) {
            CHECK.refused("at(" + row[0] + ", " + row[1] + ", " + row[2] + ", " + row[3] + ")", x,
                    y -> y.at(row[0], row[1], row[2], row[3]), OUTSIDE);
        }
    }

    /** A MOMENT at NOW is of the PAST, and no later law changes it; what is above NOW goes by the laws as they are. */
    private static void pastAndForetold() {
        Subject x = new Subject();
        x.point(0, 1);
        x.point(6, -1);
        x.go(2);
        place(x, 0, 401, 200, 401, 200);
        order(x, 7, 2, 1, 0);
        at(x, 7, 2, 2, 0, 1, 0);
        x.speed(0, -1);
        place(x, 0, 399, 200, 399, 200);
        place(x, 0, 2, 1, 2, 1);
        place(x, 0, 401, 200, 399, 200);
        order(x, 7, 2, 0, 1);
        at(x, 7, 2, 2, 1, 0, 1);
        x.gone(1);
        order(x, 399, 200, 0, 1);
        at(x, 399, 200, 2, 1, 0, 1);
        order(x, 2, 1, 0);
        at(x, 2, 1, 1, 0, NONE, NONE);
        order(x, 7, 2, 0);
        at(x, 7, 2, 1, 0, NONE, NONE);
        x.point(-9, 0);
        order(x, 399, 200, 0, 1);
        order(x, 2, 1, 2, 0);
        order(x, 600, 1, 0, 2);
        x.back(0);
        order(x, 7, 2, 1, 0);
    }

    /** Of like ones the least number is the first, the most the FOREMOST, and the first two are CLOSEST. */
    private static void tenAlike() {
        Subject x = new Subject();
        for (int i = 0; i < 10; i++) {
            x.point(5, 7);
        }
        order(x, 0, 1, 0, 1, 2, 3, 4, 5, 6, 7, 8, 9);
        order(x, 119999, 200, 0, 1, 2, 3, 4, 5, 6, 7, 8, 9);
        kept(x, 0, 1, 2, 3, 4, 5, 6, 7, 8, 9);
        at(x, 0, 1, 10, 9, 0, 1);
        CHECK.due("HEAPS of ten alike", x.at(0, 1, 4, 0), 1);
        x.go(1);
        x.gone(0);
        x.gone(9);
        order(x, 1, 1, 1, 2, 3, 4, 5, 6, 7, 8);
        kept(x, 1, 2, 3, 4, 5, 6, 7, 8);
        at(x, 1, 1, 8, 8, 1, 2);
        for (int i = 1; i < 9; i++) {
            x.speed(i, 50 - i);
        }
        order(x, 201, 200, 8, 7, 6, 5, 4, 3, 2, 1);
        at(x, 201, 200, 8, 1, 8, 7);
        CHECK.due("HEAPS right behind", x.at(201, 200, 4, 0), 8);
        CHECK.due("HEAPS a little later", x.at(2, 1, 4, 1), 1);
        CHECK.due("HEAPS right behind that", x.at(401, 200, 4, 1), 8);
    }

    /** The widest WIDTH, and PLACES that are farthest apart. */
    private static void asFarAsCanBe() {
        Subject x = new Subject();
        x.point(-1000, -50);
        x.point(1000, 50);
        CHECK.due("HEAPS at 0", x.at(0, 1, 4, 2000), 1);
        CHECK.due("HEAPS at 0 by 1999", x.at(0, 1, 4, 1999), 2);
        CHECK.due("HEAPS right behind 0", x.at(1, 200, 4, 2000), 2);
        place(x, 0, 600, 1, -31000, 1);
        place(x, 1, 119999, 200, 123999, 4);
        place(x, 0, 119399, 199, -6168950, 199);
        at(x, 120000, 200, 2, 1, 0, 1);
        order(x, 120000, 200, 0, 1);
        CHECK.due("HEAPS at 600", x.at(120000, 200, 4, 2000), 2);
    }
}
