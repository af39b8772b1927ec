/** Promises 1 to 5, 7 and 8: POINTS that come, turn and go; NOW goes on; what is counted and told. */
final class PointsTest {
    private static final int NONE = KeptMoving.NONE;
    private static final int UNKNOWN = KeptMoving.UNKNOWN;
    private static final int OUTSIDE = KeptMoving.OUTSIDE;
    private static final int NOT = KeptMoving.NOT;
    private static final int FULL = KeptMoving.FULL;

    private static final Check CHECK = new Check("PointsTest");

    public static void main(String[] args) {
        promise1New();
        promise2Point();
        promise2FirstAndLast();
        promise3Speed();
        promise3Full();
        promise3FromNowOn();
        promise4Gone();
        promise4FirstAndLast();
        promise5Go();
        promise5UpToTheLast();
        promise7Count();
        promise7MeetingsUpToNow();
        promise7HowMany();
        promise8Told();
        promise8FirstAndLast();
        CHECK.end();
    }

    private static void promise1New() {
        Subject x = new Subject();
        for (int what = 0; what <= 5; what++) {
            CHECK.due("count(" + what + ") of a new object", x.count(what), 0);
        }
        CHECK.due("told(0, 0) of a new object", x.told(0, 0), UNKNOWN);
        CHECK.due("kept(0) of a new object", x.kept(0), NONE);
        CHECK.due("at(0, 1, 0, 0) of a new object", x.at(0, 1, 0, 0), 0);
        CHECK.due("meeting(NONE, 0) of a new object", x.meeting(NONE, 0), NONE);
        x.point(1, 1);
        CHECK.due("count(1) of another new object", new KeptMoving().count(1), 0);
    }

    private static void promise2Point() {
        Subject x = new Subject();
        CHECK.refused("point(1001, 0)", x, y -> y.point(1001, 0), OUTSIDE);
        CHECK.refused("point(-1001, 0)", x, y -> y.point(-1001, 0), OUTSIDE);
        CHECK.refused("point(0, 51)", x, y -> y.point(0, 51), OUTSIDE);
        CHECK.refused("point(0, -51)", x, y -> y.point(0, -51), OUTSIDE);
        CHECK.refused("point(least, most)", x, y -> y.point(Integer.MIN_VALUE, Integer.MAX_VALUE), OUTSIDE);
        CHECK.due("point(1000, 50)", x.point(1000, 50), 0);
        CHECK.due("point(-1000, -50)", x.point(-1000, -50), 1);
        x.go(7);
        CHECK.due("point(3, -4) at 7", x.point(3, -4), 2);
        CHECK.due("told(2, 0)", x.told(2, 0), 7);
        CHECK.due("place of 2 at 15/2", x.place(2, 15, 2, 0), 1);
        CHECK.due("place of 0 at 600", x.place(0, 600, 1, 0), 31000);
        CHECK.due("place of 1 at 600", x.place(1, 600, 1, 0), -31000);
        for (int i = 3; i < 10; i++) {
            CHECK.due("point " + i, x.point(i, 0), i);
        }
        CHECK.refused("the 11th point", x, y -> y.point(0, 0), FULL);
        CHECK.refused("the 11th point, out of bounds", x, y -> y.point(0, 51), OUTSIDE);
        x.go(1);
        x.gone(4);
        CHECK.refused("the 11th point, one being GONE", x, y -> y.point(0, 0), FULL);
        x.back(1);
        CHECK.due("points after back", x.count(1), 2);
        CHECK.due("a point after back", x.point(0, 0), 2);
    }

    /** The first number is 0, the last one 9; a POINT is there at once, at the last NOW, too. */
    private static void promise2FirstAndLast() {
        Subject x = new Subject();
        for (int i = 0; i < 5; i++) {
            CHECK.due("POINT " + i + " at 0", x.point(7, 1), i);
            CHECK.due("how many are there", x.count(2), i + 1);
            CHECK.due("the last one kept", x.kept(i), i);
        }
        x.go(3);
        for (int i = 0; i < 5; i++) {
            x.gone(i);
        }
        goToTheLast(x);
        for (int i = 5; i < 10; i++) {
            CHECK.due("POINT " + i + " at 400", x.point(-7, -50), i);
            CHECK.due("its place at 400", x.place(i, 400, 1, 0), -7);
            CHECK.due("its place at 600", x.place(i, 600, 1, 0), -10007);
        }
        CHECK.refused("an 11th POINT, five being GONE", x, y -> y.point(0, 0), FULL);
        for (int i = 0; i < 10; i++) {
            CHECK.due("when " + i + " came", x.told(i, 0), i < 5 ? 0 : 400);
        }
    }

    private static void goToTheLast(Subject x) {
        for (int step = 0; step < 4; step++) {
            x.go(Math.min(100, 400 - x.count(0)));
        }
    }

    private static void promise3Speed() {
        Subject x = new Subject();
        CHECK.refused("speed(0, 1) without points", x, y -> y.speed(0, 1), UNKNOWN);
        x.point(10, 4);
        CHECK.refused("speed(-1, 51)", x, y -> y.speed(-1, 51), UNKNOWN);
        CHECK.refused("speed(1, 0)", x, y -> y.speed(1, 0), UNKNOWN);
        CHECK.refused("speed(0, 51)", x, y -> y.speed(0, 51), OUTSIDE);
        CHECK.refused("speed(0, -51)", x, y -> y.speed(0, -51), OUTSIDE);
        CHECK.due("speed(0, 50) when it came", x.speed(0, 50), 4);
        CHECK.due("speed(0, -50) when it came", x.speed(0, -50), 50);
        CHECK.due("speed(0, 2) when it came", x.speed(0, 2), -50);
        CHECK.due("PIECES after what was put right", x.told(0, 2), 1);
        x.go(3);
        CHECK.due("speed(0, -1)", x.speed(0, -1), 2);
        CHECK.due("PIECES", x.told(0, 2), 2);
        CHECK.due("place at 3", x.place(0, 3, 1, 0), 16);
        CHECK.due("place at 2", x.place(0, 2, 1, 0), 14);
        CHECK.due("place at 5", x.place(0, 5, 1, 0), 14);
        CHECK.due("speed(0, -1) again, put right", x.speed(0, -1), -1);
        CHECK.due("PIECES", x.told(0, 2), 2);
        x.go(1);
        CHECK.due("speed(0, -1), a PIECE of its own", x.speed(0, -1), -1);
        CHECK.due("PIECES", x.told(0, 2), 3);
        x.gone(0);
        CHECK.refused("speed(0, 1), GONE", x, y -> y.speed(0, 1), NOT);
        CHECK.refused("speed(0, 51), GONE", x, y -> y.speed(0, 51), OUTSIDE);
    }

    private static void promise3Full() {
        Subject x = new Subject();
        x.point(0, 0);
        for (int piece = 2; piece <= 8; piece++) {
            x.go(1);
            CHECK.due("PIECE " + piece, x.speed(0, piece), piece == 2 ? 0 : piece - 1);
        }
        CHECK.due("the 8th PIECE put right", x.speed(0, 9), 8);
        CHECK.due("PIECES", x.told(0, 2), 8);
        x.go(1);
        CHECK.refused("the 9th PIECE", x, y -> y.speed(0, 0), FULL);
        CHECK.refused("the 9th PIECE, out of bounds", x, y -> y.speed(0, 99), OUTSIDE);
        x.gone(0);
        CHECK.refused("the 9th PIECE, GONE", x, y -> y.speed(0, 0), NOT);
        x.back(1);
        CHECK.due("PIECES after back", x.told(0, 2), 7);
        CHECK.due("an 8th PIECE again", x.speed(0, 1), 7);
    }

    /** Up to NOW, and at NOW itself, PLACES are what they were; FULL is one POINT's own. */
    private static void promise3FromNowOn() {
        Subject x = new Subject();
        x.point(0, 50);
        x.point(0, 1);
        goToTheLast(x);
        CHECK.due("speed(0, -50) at 400", x.speed(0, -50), 50);
        CHECK.due("the place right before", x.place(0, 79999, 200, 0), 79999);
        CHECK.due("its lower number", x.place(0, 79999, 200, 1), 4);
        CHECK.due("the place at NOW", x.place(0, 400, 1, 0), 20000);
        CHECK.due("the place right behind", x.place(0, 80001, 200, 0), 79999);
        CHECK.due("the place at 600", x.place(0, 600, 1, 0), 10000);
        CHECK.due("the other one's place at 600", x.place(1, 600, 1, 0), 600);
        CHECK.due("the other one's PIECES", x.told(1, 2), 1);
        x.back(100);
        for (int piece = 2; piece <= 8; piece++) {
            x.go(1);
            x.speed(0, 0);
        }
        x.go(1);
        CHECK.refused("a 9th PIECE of 0", x, y -> y.speed(0, 1), FULL);
        CHECK.due("a 2nd PIECE of 1", x.speed(1, 9), 1);
        CHECK.due("PIECES of 0", x.told(0, 2), 8);
        CHECK.due("PIECES of 1", x.told(1, 2), 2);
    }

    private static void promise4Gone() {
        Subject x = new Subject();
        CHECK.refused("gone(0) without points", x, y -> y.gone(0), UNKNOWN);
        x.point(5, 1);
        x.point(6, 0);
        CHECK.refused("gone(0) when it came", x, y -> y.gone(0), NOT);
        CHECK.refused("gone(-1)", x, y -> y.gone(-1), UNKNOWN);
        CHECK.refused("gone(2)", x, y -> y.gone(2), UNKNOWN);
        x.go(4);
        CHECK.due("gone(0)", x.gone(0), 1);
        CHECK.refused("gone(0) again", x, y -> y.gone(0), NOT);
        CHECK.due("there", x.count(2), 1);
        CHECK.due("place right before", x.place(0, 799, 200, 0), 1799);
        CHECK.due("place when GONE", x.place(0, 4, 1, 0), NOT);
        CHECK.due("place later", x.place(0, 600, 1, 0), NOT);
        x.go(1);
        CHECK.refused("gone(0) later", x, y -> y.gone(0), NOT);
        CHECK.due("gone(1)", x.gone(1), 1);
        CHECK.due("there", x.count(2), 0);
    }

    /** The first NOW at which it can be GONE is the one after it came; the last is 400. */
    private static void promise4FirstAndLast() {
        Subject x = new Subject();
        x.go(4);
        x.point(0, 1);
        CHECK.refused("gone(0) when it came", x, y -> y.gone(0), NOT);
        x.go(1);
        CHECK.due("gone(0) one later", x.gone(0), 1);
        CHECK.due("told(0, 1)", x.told(0, 1), 5);
        CHECK.due("when it came it was there", x.at(4, 1, 0, 0), 1);
        CHECK.due("right before NOW it was there", x.at(999, 200, 0, 0), 1);
        CHECK.due("at NOW it is not", x.at(5, 1, 0, 0), 0);
        x.point(3, 0);
        goToTheLast(x);
        CHECK.due("gone(1) at 400", x.gone(1), 1);
        CHECK.refused("gone(1) at 400 again", x, y -> y.gone(1), NOT);
        CHECK.due("right before 400 it was there", x.place(1, 79999, 200, 0), 3);
        CHECK.due("at 400 it is not", x.place(1, 400, 1, 0), NOT);
        x.point(8, 0);
        CHECK.refused("gone(2) at 400, when it came", x, y -> y.gone(2), NOT);
    }

    private static void promise5Go() {
        Subject x = new Subject();
        CHECK.due("go(0)", x.go(0), 0);
        CHECK.refused("go(-1)", x, y -> y.go(-1), OUTSIDE);
        CHECK.refused("go(101)", x, y -> y.go(101), OUTSIDE);
        CHECK.refused("go(most)", x, y -> y.go(Integer.MAX_VALUE), OUTSIDE);
        for (int now = 100; now <= 300; now += 100) {
            CHECK.due("go(100)", x.go(100), now);
        }
        CHECK.due("go(1)", x.go(1), 301);
        CHECK.refused("go(100) at 301", x, y -> y.go(100), NOT);
        CHECK.due("go(99)", x.go(99), 400);
        CHECK.refused("go(1) at 400", x, y -> y.go(1), NOT);
        CHECK.refused("go(101) at 400", x, y -> y.go(101), OUTSIDE);
        CHECK.due("go(0) at 400", x.go(0), 400);
        CHECK.due("NOW", x.count(0), 400);
    }

    /** To 400 itself by any step, but not above it. */
    private static void promise5UpToTheLast() {
        for (int step : new int[] {1, 2, 50, 99, 100}) {
            Subject x = new Subject();
            goToTheLast(x);
            x.back(step - 1);
            CHECK.refused("go(" + step + ") to 401", x, y -> y.go(step), NOT);
            CHECK.due("go(" + (step - 1) + ") to 400", x.go(step - 1), 400);
            CHECK.refused("go(" + step + ") at 400", x, y -> y.go(step), NOT);
            CHECK.due("NOW", x.count(0), 400);
        }
    }

    private static void promise7Count() {
        Subject x = new Subject();
        x.point(0, 3);
        CHECK.due("WATCHED of one", x.count(5), 0);
        x.point(10, -2);
        x.point(10, 0);
        x.go(4);
        x.gone(1);
        long[] wants = {4, 3, 2, 2, 2, 1};
        for (int what = 0; what <= 5; what++) {
            CHECK.due("count(" + what + ")", x.count(what), wants[what]);
        }
        CHECK.due("count(-1)", x.count(-1), OUTSIDE);
        CHECK.due("count(6)", x.count(6), OUTSIDE);
        countsPassesByTheLawsAsTheyAre();
    }

    /** A MEETING at NOW is of the PAST, one above NOW, however little, is not. */
    private static void promise7MeetingsUpToNow() {
        Subject x = new Subject();
        x.point(0, 50);
        x.point(100, 0);
        x.point(101, 0);
        x.go(1);
        counted(x, 0, 0);
        x.go(1);
        counted(x, 1, 1);
        x.go(1);
        counted(x, 2, 2);
        x.gone(0);
        counted(x, 2, 2);
        x.back(0);
        x.back(1);
        counted(x, 1, 1);
        x.speed(0, 0);
        counted(x, 1, 0);
    }

    private static void counted(Subject x, int meetings, int passes) {
        CHECK.due("MEETINGS at " + x.count(0), x.count(3), meetings);
        CHECK.due("PASSES at " + x.count(0), x.count(4), passes);
    }

    /** Of POINTS that came, that are there, and of WATCHED pairs: none, one, all ten, and fewer again. */
    private static void promise7HowMany() {
        Subject x = new Subject();
        howMany(x, 0, 0, 0);
        for (int came = 1; came <= 10; came++) {
            x.point(5, 0);
            howMany(x, came, came, came - 1);
        }
        x.go(1);
        for (int gone = 1; gone <= 10; gone++) {
            x.gone(gone - 1);
            howMany(x, 10, 10 - gone, Math.max(9 - gone, 0));
        }
        goToTheLast(x);
        CHECK.due("NOW", x.count(0), 400);
    }

    private static void howMany(Subject x, int came, int there, int watched) {
        CHECK.due("POINTS that came", x.count(1), came);
        CHECK.due("how many are there", x.count(2), there);
        CHECK.due("WATCHED pairs", x.count(5), watched);
    }

    private static void countsPassesByTheLawsAsTheyAre() {
        Subject x = new Subject();
        x.point(0, 1);
        x.point(5, 0);
        x.go(5);
        CHECK.due("PASSES", x.count(4), 1);
        x.speed(0, 0);
        CHECK.due("PASSES, together behind", x.count(4), 0);
        x.speed(0, -3);
        CHECK.due("PASSES, turned", x.count(4), 0);
        x.speed(1, -4);
        CHECK.due("PASSES, the other one falls behind", x.count(4), 1);
        CHECK.due("MEETINGS", x.count(3), 1);
        x.gone(1);
        CHECK.due("MEETINGS, one GONE then", x.count(3), 0);
        CHECK.due("PASSES, one GONE then", x.count(4), 0);
    }

    private static void promise8Told() {
        Subject x = new Subject();
        x.point(0, 3);
        x.go(2);
        x.point(1, -1);
        x.go(2);
        x.speed(0, 6);
        x.go(1);
        x.gone(0);
        long[] wants = {0, 5, 2, 6};
        long[] others = {2, NONE, 1, -1};
        for (int what = 0; what <= 3; what++) {
            CHECK.due("told(0, " + what + ")", x.told(0, what), wants[what]);
            CHECK.due("told(1, " + what + ")", x.told(1, what), others[what]);
        }
        CHECK.due("told(0, 4)", x.told(0, 4), OUTSIDE);
        CHECK.due("told(0, -1)", x.told(0, -1), OUTSIDE);
        CHECK.due("told(2, 0)", x.told(2, 0), UNKNOWN);
        CHECK.due("told(-1, 9)", x.told(-1, 9), UNKNOWN);
    }

    /** The earliest and the latest times, the slowest and the fastest, one PIECE and eight. */
    private static void promise8FirstAndLast() {
        Subject x = new Subject();
        x.point(0, -50);
        told(x, 0, 0, NONE, 1, -50);
        x.speed(0, 50);
        told(x, 0, 0, NONE, 1, 50);
        for (int piece = 2; piece <= 8; piece++) {
            x.go(1);
            x.speed(0, piece);
            told(x, 0, 0, NONE, piece, piece);
        }
        x.gone(0);
        told(x, 0, 0, 7, 8, 8);
        goToTheLast(x);
        told(x, 0, 0, 7, 8, 8);
        x.point(0, 0);
        told(x, 1, 400, NONE, 1, 0);
        x.back(1);
        x.point(0, 0);
        x.go(1);
        x.gone(1);
        told(x, 1, 399, 400, 1, 0);
        CHECK.due("told(1, 1) after back", x.back(0) + x.told(1, 1), 400 + NONE);
    }

    private static void told(Subject x, int i, int came, int gone, int pieces, int speed) {
        int[] dues = {came, gone, pieces, speed};
        for (int what = 0; what <= 3; what++) {
            CHECK.due("told(" + i + ", " + what + ") at " + x.count(0), x.told(i, what), dues[what]);
        }
    }
}
