/** Promises 1 to 8: POINTS that come, turn and go; NOW on and back; what is counted and told. */
final class PointsTest {
    private static final int NONE = KeptMoving.NONE;
    private static final int UNKNOWN = KeptMoving.UNKNOWN;
    private static final int OUTSIDE = KeptMoving.OUTSIDE;
    private static final int NOT = KeptMoving.NOT;
    private static final int FULL = KeptMoving.FULL;

    private static final Check CHECK = new Check("PointsTest");

    public static void main(String[] args) {
        promise1New();
        promise2Point();
        promise3Speed();
        promise3Full();
        promise4Gone();
        promise5Go();
        promise6Back();
        promise6BackTakesBackMeetings();
        promise7Count();
        promise8Told();
        CHECK.end();
    }

    private static void promise1New() {
        KeptMoving x = new KeptMoving();
        for (int what = 0; what <= 5; what++) {
            CHECK.due("count(" + what + ") of a new object", x.count(what), 0);
        }
        CHECK.due("told(0, 0) of a new object", x.told(0, 0), UNKNOWN);
        CHECK.due("kept(0) of a new object", x.kept(0), NONE);
        CHECK.due("at(0, 1, 0, 0) of a new object", x.at(0, 1, 0, 0), 0);
        CHECK.due("meeting(NONE, 0) of a new object", x.meeting(NONE, 0), NONE);
        x.point(1, 1);
        CHECK.due("count(1) of another new object", new KeptMoving().count(1), 0);
    }

    private static void promise2Point() {
        KeptMoving x = new KeptMoving();
        CHECK.refused("point(1001, 0)", x, y -> y.point(1001, 0), OUTSIDE);
        CHECK.refused("point(-1001, 0)", x, y -> y.point(-1001, 0), OUTSIDE);
        CHECK.refused("point(0, 51)", x, y -> y.point(0, 51), OUTSIDE);
        CHECK.refused("point(0, -51)", x, y -> y.point(0, -51), OUTSIDE);
        CHECK.refused("point(least, most)", x, y -> y.point(Integer.MIN_VALUE, Integer.MAX_VALUE), OUTSIDE);
        CHECK.due("point(1000, 50)", x.point(1000, 50), 0);
        CHECK.due("point(-1000, -50)", x.point(-1000, -50), 1);
        x.go(7);
        CHECK.due("point(3, -4) at 7", x.point(3, -4), 2);
        CHECK.due("told(2, 0)", x.told(2, 0), 7);
        CHECK.due("place of 2 at 15/2", x.place(2, 15, 2, 0), 1);
        CHECK.due("place of 0 at 600", x.place(0, 600, 1, 0), 31000);
        CHECK.due("place of 1 at 600", x.place(1, 600, 1, 0), -31000);
        for (int i = 3; i < 10; i++) {
            CHECK.due("point " + i, x.point(i, 0), i);
        }
        CHECK.refused("the 11th point", x, y -> y.point(0, 0), FULL);
        CHECK.refused("the 11th point, out of bounds", x, y -> y.point(0, 51), OUTSIDE);
        x.go(1);
        x.gone(4);
        CHECK.refused("the 11th point, one being GONE", x, y -> y.point(0, 0), FULL);
        x.back(1);
        CHECK.due("points after back", x.count(1), 2);
        CHECK.due("a point after back", x.point(0, 0), 2);
    }

    private static void promise3Speed() {
        KeptMoving x = new KeptMoving();
        CHECK.refused("speed(0, 1) without points", x, y -> y.speed(0, 1), UNKNOWN);
        x.point(10, 4);
        CHECK.refused("speed(-1, 51)", x, y -> y.speed(-1, 51), UNKNOWN);
        CHECK.refused("speed(1, 0)", x, y -> y.speed(1, 0), UNKNOWN);
        CHECK.refused("speed(0, 51)", x, y -> y.speed(0, 51), OUTSIDE);
        CHECK.refused("speed(0, -51)", x, y -> y.speed(0, -51), OUTSIDE);
        CHECK.due("speed(0, 50) when it came", x.speed(0, 50), 4);
        CHECK.due("speed(0, -50) when it came", x.speed(0, -50), 50);
        CHECK.due("speed(0, 2) when it came", x.speed(0, 2), -50);
        CHECK.due("PIECES after what was put right", x.told(0, 2), 1);
        x.go(3);
        CHECK.due("speed(0, -1)", x.speed(0, -1), 2);
        CHECK.due("PIECES", x.told(0, 2), 2);
        CHECK.due("place at 3", x.place(0, 3, 1, 0), 16);
        CHECK.due("place at 2", x.place(0, 2, 1, 0), 14);
        CHECK.due("place at 5", x.place(0, 5, 1, 0), 14);
        CHECK.due("speed(0, -1) again, put right", x.speed(0, -1), -1);
        CHECK.due("PIECES", x.told(0, 2), 2);
        x.go(1);
        CHECK.due("speed(0, -1), a PIECE of its own", x.speed(0, -1), -1);
        CHECK.due("PIECES", x.told(0, 2), 3);
        x.gone(0);
        CHECK.refused("speed(0, 1), GONE", x, y -> y.speed(0, 1), NOT);
        CHECK.refused("speed(0, 51), GONE", x, y -> y.speed(0, 51), OUTSIDE);
    }

    private static void promise3Full() {
        KeptMoving x = new KeptMoving();
        x.point(0, 0);
        for (int piece = 2; piece <= 8; piece++) {
            x.go(1);
            CHECK.due("PIECE " + piece, x.speed(0, piece), piece == 2 ? 0 : piece - 1);
        }
        CHECK.due("the 8th PIECE put right", x.speed(0, 9), 8);
        CHECK.due("PIECES", x.told(0, 2), 8);
        x.go(1);
        CHECK.refused("the 9th PIECE", x, y -> y.speed(0, 0), FULL);
        CHECK.refused("the 9th PIECE, out of bounds", x, y -> y.speed(0, 99), OUTSIDE);
        x.gone(0);
        CHECK.refused("the 9th PIECE, GONE", x, y -> y.speed(0, 0), NOT);
        x.back(1);
        CHECK.due("PIECES after back", x.told(0, 2), 7);
        CHECK.due("an 8th PIECE again", x.speed(0, 1), 7);
    }

    private static void promise4Gone() {
        KeptMoving x = new KeptMoving();
        CHECK.refused("gone(0) without points", x, y -> y.gone(0), UNKNOWN);
        x.point(5, 1);
        x.point(6, 0);
        CHECK.refused("gone(0) when it came", x, y -> y.gone(0), NOT);
        CHECK.refused("gone(-1)", x, y -> y.gone(-1), UNKNOWN);
        CHECK.refused("gone(2)", x, y -> y.gone(2), UNKNOWN);
        x.go(4);
        CHECK.due("gone(0)", x.gone(0), 1);
        CHECK.refused("gone(0) again", x, y -> y.gone(0), NOT);
        CHECK.due("there", x.count(2), 1);
        CHECK.due("place right before", x.place(0, 799, 200, 0), 1799);
        CHECK.due("place when GONE", x.place(0, 4, 1, 0), NOT);
        CHECK.due("place later", x.place(0, 600, 1, 0), NOT);
        x.go(1);
        CHECK.refused("gone(0) later", x, y -> y.gone(0), NOT);
        CHECK.due("gone(1)", x.gone(1), 1);
        CHECK.due("there", x.count(2), 0);
    }

    private static void promise5Go() {
        KeptMoving x = new KeptMoving();
        CHECK.due("go(0)", x.go(0), 0);
        CHECK.refused("go(-1)", x, y -> y.go(-1), OUTSIDE);
        CHECK.refused("go(101)", x, y -> y.go(101), OUTSIDE);
        CHECK.refused("go(most)", x, y -> y.go(Integer.MAX_VALUE), OUTSIDE);
        for (int now = 100; now <= 300; now += 100) {
            CHECK.due("go(100)", x.go(100), now);
        }
        CHECK.due("go(1)", x.go(1), 301);
        CHECK.refused("go(100) at 301", x, y -> y.go(100), NOT);
        CHECK.due("go(99)", x.go(99), 400);
        CHECK.refused("go(1) at 400", x, y -> y.go(1), NOT);
        CHECK.refused("go(101) at 400", x, y -> y.go(101), OUTSIDE);
        CHECK.due("go(0) at 400", x.go(0), 400);
        CHECK.due("NOW", x.count(0), 400);
    }

    private static void promise6Back() {
        KeptMoving x = new KeptMoving();
        CHECK.refused("back(1) at 0", x, y -> y.back(1), NOT);
        CHECK.refused("back(-1)", x, y -> y.back(-1), OUTSIDE);
        CHECK.refused("back(101)", x, y -> y.back(101), OUTSIDE);
        x.point(0, 1);
        CHECK.due("back(0) at 0", x.back(0), 0);
        CHECK.due("points after back(0)", x.count(1), 0);
        x.point(0, 1);
        x.point(9, 0);
        x.go(5);
        x.speed(0, 2);
        x.point(7, 7);
        x.gone(1);
        CHECK.due("back(0)", x.back(0), 5);
        CHECK.due("points", x.count(1), 2);
        CHECK.due("PIECES", x.told(0, 2), 1);
        CHECK.due("SPEED", x.told(0, 3), 1);
        CHECK.due("when 1 was GONE", x.told(1, 1), NONE);
        x.speed(0, 3);
        x.gone(1);
        x.go(2);
        x.point(1, 1);
        x.speed(0, 4);
        CHECK.due("back(1)", x.back(1), 6);
        CHECK.due("what began before stays", x.told(0, 3), 3);
        CHECK.due("GONE before stays", x.told(1, 1), 5);
        CHECK.due("points", x.count(1), 2);
        CHECK.refused("back(7) at 6", x, y -> y.back(7), NOT);
        CHECK.refused("back(101) at 6", x, y -> y.back(101), OUTSIDE);
        CHECK.due("back(1) to when it was done", x.back(1), 5);
        CHECK.due("what began there", x.told(0, 3), 1);
        CHECK.due("GONE there", x.told(1, 1), NONE);
        CHECK.due("what went by the old law again", x.place(0, 10, 1, 0), 10);
        CHECK.due("back(5)", x.back(5), 0);
        CHECK.due("points that came at 0", x.count(1), 0);
    }

    private static void promise6BackTakesBackMeetings() {
        KeptMoving x = new KeptMoving();
        x.point(0, 2);
        x.point(10, 0);
        x.go(6);
        CHECK.dueText("meetings", Snapshot.meetings(x), "1: 5/1 0 1");
        x.back(1);
        CHECK.dueText("a MEETING at NOW stays", Snapshot.meetings(x), "1: 5/1 0 1");
        x.back(1);
        CHECK.dueText("a MEETING taken back", Snapshot.meetings(x), "0:");
        CHECK.dueText("it is THE NEXT one", Snapshot.meeting(x, NONE), "5/1 0 1");
        x.speed(0, 1);
        CHECK.dueText("THE NEXT by the new law", Snapshot.meeting(x, NONE), "6/1 0 1");
    }

    private static void promise7Count() {
        KeptMoving x = new KeptMoving();
        x.point(0, 3);
        CHECK.due("WATCHED of one", x.count(5), 0);
        x.point(10, -2);
        x.point(10, 0);
        x.go(4);
        x.gone(1);
        long[] wants = {4, 3, 2, 2, 2, 1};
        for (int what = 0; what <= 5; what++) {
            CHECK.due("count(" + what + ")", x.count(what), wants[what]);
        }
        CHECK.due("count(-1)", x.count(-1), OUTSIDE);
        CHECK.due("count(6)", x.count(6), OUTSIDE);
        countsPassesByTheLawsAsTheyAre();
    }

    private static void countsPassesByTheLawsAsTheyAre() {
        KeptMoving x = new KeptMoving();
        x.point(0, 1);
        x.point(5, 0);
        x.go(5);
        CHECK.due("PASSES", x.count(4), 1);
        x.speed(0, 0);
        CHECK.due("PASSES, together behind", x.count(4), 0);
        x.speed(0, -3);
        CHECK.due("PASSES, turned", x.count(4), 0);
        x.speed(1, -4);
        CHECK.due("PASSES, the other one falls behind", x.count(4), 1);
        CHECK.due("MEETINGS", x.count(3), 1);
        x.gone(1);
        CHECK.due("MEETINGS, one GONE then", x.count(3), 0);
        CHECK.due("PASSES, one GONE then", x.count(4), 0);
    }

    private static void promise8Told() {
        KeptMoving x = new KeptMoving();
        x.point(0, 3);
        x.go(2);
        x.point(1, -1);
        x.go(2);
        x.speed(0, 6);
        x.go(1);
        x.gone(0);
        long[] wants = {0, 5, 2, 6};
        long[] others = {2, NONE, 1, -1};
        for (int what = 0; what <= 3; what++) {
            CHECK.due("told(0, " + what + ")", x.told(0, what), wants[what]);
            CHECK.due("told(1, " + what + ")", x.told(1, what), others[what]);
        }
        CHECK.due("told(0, 4)", x.told(0, 4), OUTSIDE);
        CHECK.due("told(0, -1)", x.told(0, -1), OUTSIDE);
        CHECK.due("told(2, 0)", x.told(2, 0), UNKNOWN);
        CHECK.due("told(-1, 9)", x.told(-1, 9), UNKNOWN);
    }
}
