/** Promise 6: NOW goes back, and what was done from then on is as if it had not been done. */
final class BackTest {
    private static final int NONE = KeptMoving.NONE;
    private static final int UNKNOWN = KeptMoving.UNKNOWN;
    private static final int OUTSIDE = KeptMoving.OUTSIDE;
    private static final int NOT = KeptMoving.NOT;
    private static final int FULL = KeptMoving.FULL;

    private static final Check CHECK = new Check("BackTest");

    public static void main(String[] args) {
        asFarAsZero();
        asFarAsAHundred();
        pointsThatCame();
        piecesThatBegan();
        whatWasPutRight();
        pointsThatWereGone();
        allThatCameLaterToo();
        roomAgain();
        anotherOneOfTheSameNumber();
        notWhatWasDoneBefore();
        goingOnAgain();
        meetings();
        meetingsAtNowStay();
        manyDeedsAtOneTime();
        CHECK.end();
    }

    private static void asFarAsZero() {
        Subject x = new Subject();
        CHECK.due("back(0) at 0", x.back(0), 0);
        CHECK.refused("back(1) at 0", x, y -> y.back(1), NOT);
        x.go(7);
        CHECK.refused("back(8) at 7", x, y -> y.back(8), NOT);
        CHECK.due("back(6) at 7", x.back(6), 1);
        CHECK.refused("back(2) at 1", x, y -> y.back(2), NOT);
        CHECK.due("back(1) at 1", x.back(1), 0);
        CHECK.due("NOW", x.count(0), 0);
    }

    private static void asFarAsAHundred() {
        Subject x = new Subject();
        x.go(99);
        CHECK.refused("back(100) at 99", x, y -> y.back(100), NOT);
        x.go(1);
        CHECK.due("back(100) at 100", x.back(100), 0);
        for (int now = 100; now <= 400; now += 100) {
            x.go(100);
        }
        for (int now = 300; now >= 0; now -= 100) {
            CHECK.due("back(100) to " + now, x.back(100), now);
        }
    }

    private static void pointsThatCame() {
        Subject x = new Subject();
        x.point(1, 1);
        x.go(5);
        CHECK.due("a POINT at 5", x.point(2, 2), 1);
        x.go(1);
        CHECK.due("a POINT at 6", x.point(3, 3), 2);
        CHECK.due("back to 6", x.back(0), 6);
        CHECK.due("that of 6 is not", x.told(2, 0), UNKNOWN);
        CHECK.due("that of 5 is", x.told(1, 0), 5);
        CHECK.due("back to 5", x.back(1), 5);
        CHECK.due("that of 5 is not", x.told(1, 0), UNKNOWN);
        CHECK.due("that of 0 is", x.told(0, 0), 0);
        CHECK.due("its number is the next one's", x.point(4, -4), 1);
        int[] dues = {5, NONE, 1, -4};
        for (int what = 0; what <= 3; what++) {
            CHECK.due("told(1, " + what + ")", x.told(1, what), dues[what]);
        }
        CHECK.due("back to 0", x.back(5), 0);
        CHECK.due("that of 0 is not", x.told(0, 0), UNKNOWN);
        CHECK.due("the first number again", x.point(9, 0), 0);
    }

    private static void piecesThatBegan() {
        Subject x = new Subject();
        x.point(0, 1);
        x.go(5);
        x.speed(0, 2);
        x.go(1);
        x.speed(0, 3);
        CHECK.due("back to 6", x.back(0), 6);
        law(x, 2, 2, 7, 15);
        x.speed(0, 4);
        law(x, 3, 4, 7, 23);
        x.go(2);
        CHECK.due("back to 7", x.back(1), 7);
        law(x, 3, 4, 7, 23);
        CHECK.due("back to 6 again", x.back(1), 6);
        law(x, 2, 2, 7, 15);
        CHECK.due("back to 5", x.back(1), 5);
        law(x, 1, 1, 6, 10);
        CHECK.due("a PIECE there once more", x.speed(0, -1), 1);
        law(x, 2, -1, 4, 0);
    }

    /** PIECES and SPEED of POINT 0, which is at 5 at 5, and its PLACES at 6 and at 10. */
    private static void law(Subject x, int pieces, int speed, int placeAt6, int placeAt10) {
        int now = x.count(0);
        CHECK.due("PIECES at " + now, x.told(0, 2), pieces);
        CHECK.due("SPEED at " + now, x.told(0, 3), speed);
        CHECK.due("the place at 5 at " + now, x.place(0, 5, 1, 0), 5);
        CHECK.due("the place at 6 at " + now, x.place(0, 6, 1, 0), placeAt6);
        CHECK.due("the place at 10 at " + now, x.place(0, 10, 1, 0), placeAt10);
    }

    /** What was put right is gone with its PIECE, not put back to what it was; later on it stays right. */
    private static void whatWasPutRight() {
        Subject x = new Subject();
        x.point(0, 9);
        x.speed(0, 1);
        x.go(5);
        x.speed(0, 2);
        x.speed(0, 3);
        x.go(1);
        CHECK.due("back to 6", x.back(0), 6);
        law(x, 2, 3, 8, 20);
        CHECK.due("back to 5", x.back(1), 5);
        law(x, 1, 1, 6, 10);
        CHECK.due("back to 1", x.back(4), 1);
        law(x, 1, 1, 6, 10);
        CHECK.due("back to 0", x.back(1), 0);
        CHECK.due("the POINT, too, is gone then", x.count(1), 0);
    }

    private static void pointsThatWereGone() {
        Subject x = new Subject();
        x.point(0, 1);
        x.point(9, 0);
        x.go(5);
        x.gone(0);
        x.go(1);
        x.gone(1);
        CHECK.due("back to 6", x.back(0), 6);
        CHECK.due("GONE at 6 is not", x.told(1, 1), NONE);
        CHECK.due("GONE at 5 is", x.told(0, 1), 5);
        CHECK.refused("gone(0) at 6", x, y -> y.gone(0), NOT);
        CHECK.due("how many are there at 6", x.count(2), 1);
        CHECK.due("back to 5", x.back(1), 5);
        CHECK.due("GONE at 5 is not", x.told(0, 1), NONE);
        CHECK.due("how many are there at 5", x.count(2), 2);
        CHECK.due("it is there later, too", x.place(0, 600, 1, 0), 600);
        CHECK.due("its SPEED can be changed", x.speed(0, 2), 1);
        CHECK.due("it can be GONE again", x.gone(0), 1);
    }

    private static void allThatCameLaterToo() {
        Subject x = new Subject();
        x.point(0, 1);
        for (int time = 1; time <= 6; time++) {
            x.go(1);
            x.speed(0, 10 * time);
            x.point(time, 0);
        }
        x.go(1);
        for (int i = 1; i <= 6; i++) {
            x.gone(i);
        }
        CHECK.due("back to 3", x.back(4), 3);
        CHECK.due("POINTS", x.count(1), 3);
        CHECK.due("how many are there", x.count(2), 3);
        CHECK.due("PIECES", x.told(0, 2), 3);
        CHECK.due("SPEED", x.told(0, 3), 20);
        CHECK.due("the next number", x.point(0, 0), 3);
        CHECK.due("when it came", x.told(3, 0), 3);
        CHECK.due("when it was GONE", x.told(3, 1), NONE);
    }

    /** What was FULL has room again as soon as something of it was taken back. */
    private static void roomAgain() {
        Subject x = new Subject();
        for (int i = 0; i < 9; i++) {
            x.point(0, 0);
        }
        for (int piece = 2; piece <= 8; piece++) {
            x.go(1);
            x.speed(0, piece);
        }
        x.point(0, 0);
        x.go(1);
        CHECK.refused("an 11th POINT", x, y -> y.point(0, 0), FULL);
        CHECK.refused("a 9th PIECE", x, y -> y.speed(0, 0), FULL);
        CHECK.due("back to 8", x.back(0), 8);
        CHECK.refused("an 11th POINT, still", x, y -> y.point(0, 0), FULL);
        CHECK.refused("a 9th PIECE, still", x, y -> y.speed(0, 0), FULL);
        CHECK.due("back to 7", x.back(1), 7);
        CHECK.due("a 10th POINT again", x.point(0, 0), 9);
        CHECK.due("an 8th PIECE again", x.speed(0, 1), 7);
        x.go(1);
        CHECK.refused("an 11th POINT again", x, y -> y.point(0, 0), FULL);
        CHECK.refused("a 9th PIECE again", x, y -> y.speed(0, 0), FULL);
    }

    /** A POINT that comes after its number was taken back has nothing of the former one: PIECES, room for them, GONE. */
    private static void anotherOneOfTheSameNumber() {
        Subject x = new Subject();
        x.go(1);
        for (int life = 1; life <= 3; life++) {
            CHECK.due("it comes", x.point(life, 0), 0);
            isNew(x, life);
            for (int piece = 2; piece <= 8; piece++) {
                x.go(1);
                CHECK.due("PIECE " + piece + " of life " + life, x.speed(0, piece), piece == 2 ? 0 : piece - 1);
            }
            CHECK.due("PIECES of life " + life, x.told(0, 2), 8);
            x.go(1);
            CHECK.due("GONE in life " + life, x.gone(0), 1);
            CHECK.due("back to when it came", x.back(8), 1);
        }
    }

    private static void isNew(Subject x, int place) {
        int[] dues = {1, NONE, 1, 0};
        for (int what = 0; what <= 3; what++) {
            CHECK.due("told(0, " + what + ")", x.told(0, what), dues[what]);
        }
        for (int time = 1; time <= 600; time += 599) {
            CHECK.due("its place at " + time, x.place(0, time, 1, 0), place);
        }
        CHECK.due("how many are there", x.count(2), 1);
    }

    private static void notWhatWasDoneBefore() {
        Subject x = new Subject();
        x.point(0, 1);
        x.point(7, 0);
        x.go(4);
        x.speed(0, 2);
        x.gone(1);
        x.point(50, -1);
        x.go(100);
        String before = Snapshot.of(x);
        CHECK.due("back(0)", x.back(0), 104);
        CHECK.dueText("after back(0), with nothing done at NOW", Snapshot.of(x), before);
        CHECK.due("back to 5", x.back(99), 5);
        int[][] dues = {{0, NONE, 2, 2}, {0, 4, 1, 0}, {4, NONE, 1, -1}};
        for (int i = 0; i < 3; i++) {
            for (int what = 0; what <= 3; what++) {
                CHECK.due("told(" + i + ", " + what + ")", x.told(i, what), dues[i][what]);
            }
        }
    }

    private static void goingOnAgain() {
        Subject x = new Subject();
        x.point(0, 1);
        x.go(5);
        x.speed(0, 2);
        x.point(1, 1);
        x.back(1);
        x.go(10);
        CHECK.due("NOW", x.count(0), 14);
        CHECK.due("POINTS", x.count(1), 1);
        CHECK.due("PIECES", x.told(0, 2), 1);
        CHECK.due("the place at NOW", x.place(0, 14, 1, 0), 14);
    }

    private static void meetings() {
        Subject x = new Subject();
        x.point(0, 2);
        x.point(10, 0);
        x.go(5);
        x.speed(0, -2);
        counted(x, 1, 0, NONE);
        CHECK.due("back(0)", x.back(0), 5);
        counted(x, 1, 1, NONE);
        x.gone(0);
        counted(x, 0, 0, NONE);
        x.back(0);
        counted(x, 1, 1, NONE);
        CHECK.due("back to 4", x.back(1), 4);
        counted(x, 0, 0, 5);
        x.speed(1, -1);
        counted(x, 0, 0, 14);
        x.go(1);
        counted(x, 1, 1, NONE);
        CHECK.due("back to 4 again", x.back(1), 4);
        counted(x, 0, 0, 5);
    }

    private static void counted(Subject x, int meetings, int passes, int nextUpper) {
        CHECK.due("MEETINGS", x.count(3), meetings);
        CHECK.due("PASSES", x.count(4), passes);
        CHECK.due("the upper number of THE NEXT", x.meeting(NONE, 0), nextUpper);
    }

    private static void manyDeedsAtOneTime() {
        Subject x = new Subject();
        CHECK.refused("back(1) at 0", x, y -> y.back(1), NOT);
        CHECK.refused("back(-1)", x, y -> y.back(-1), OUTSIDE);
        CHECK.refused("back(101)", x, y -> y.back(101), OUTSIDE);
        x.point(0, 1);
        CHECK.due("back(0) at 0", x.back(0), 0);
        CHECK.due("points after back(0)", x.count(1), 0);
        x.point(0, 1);
        x.point(9, 0);
        x.go(5);
        x.speed(0, 2);
        x.point(7, 7);
        x.gone(1);
        CHECK.due("back(0)", x.back(0), 5);
        CHECK.due("points", x.count(1), 2);
        CHECK.due("PIECES", x.told(0, 2), 1);
        CHECK.due("SPEED", x.told(0, 3), 1);
        CHECK.due("when 1 was GONE", x.told(1, 1), NONE);
        x.speed(0, 3);
        x.gone(1);
        x.go(2);
        x.point(1, 1);
        x.speed(0, 4);
        CHECK.due("back(1)", x.back(1), 6);
        CHECK.due("what began before stays", x.told(0, 3), 3);
        CHECK.due("GONE before stays", x.told(1, 1), 5);
        CHECK.due("points", x.count(1), 2);
        CHECK.refused("back(7) at 6", x, y -> y.back(7), NOT);
        CHECK.refused("back(101) at 6", x, y -> y.back(101), OUTSIDE);
        CHECK.due("back(1) to when it was done", x.back(1), 5);
        CHECK.due("what began there", x.told(0, 3), 1);
        CHECK.due("GONE there", x.told(1, 1), NONE);
        CHECK.due("what went by the old law again", x.place(0, 10, 1, 0), 10);
        CHECK.due("back(5)", x.back(5), 0);
        CHECK.due("points that came at 0", x.count(1), 0);
    }

    private static void meetingsAtNowStay() {
        Subject x = new Subject();
        x.point(0, 2);
        x.point(10, 0);
        x.go(6);
        CHECK.dueText("meetings", Snapshot.meetings(x), "1: 5/1 0 1");
        x.back(1);
        CHECK.dueText("a MEETING at NOW stays", Snapshot.meetings(x), "1: 5/1 0 1");
        x.back(1);
        CHECK.dueText("a MEETING taken back", Snapshot.meetings(x), "0:");
        CHECK.dueText("it is THE NEXT one", Snapshot.meeting(x, NONE), "5/1 0 1");
        x.speed(0, 1);
        CHECK.dueText("THE NEXT by the new law", Snapshot.meeting(x, NONE), "6/1 0 1");
    }
}
