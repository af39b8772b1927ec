/** The most there can be at once: ten POINTS of eight PIECES, each of whose bends is at a time of its own. */
final class FullestTest {
    private static final int NONE = KeptMoving.NONE;
    private static final int FULL = KeptMoving.FULL;
    private static final int POINTS = 10;

    private static final Check CHECK = new Check("FullestTest");

    private final Subject program = new Subject();
    private final Reference reference = new Reference();

    public static void main(String[] args) {
        FullestTest test = new FullestTest();
        test.fill();
        test.askPoints();
        test.askSpans(600);
        test.askSpans(90);
        test.askMeetings();
        test.goBack();
        test.askPoints();
        test.askSpans(90);
        test.askMeetings();
        CHECK.end();
    }

    private void fill() {
        for (int i = 0; i < POINTS; i++) {
            step();
            int speed = i % 2 == 0 ? 3 : -2;
            CHECK.due("point " + i, program.point(5 * i, speed), reference.point(5 * i, speed));
        }
        for (int turn = 0; turn < 7 * POINTS; turn++) {
            step();
            int i = turn % POINTS;
            int speed = (turn * 7 + turn / POINTS) % 11 - 5;
            CHECK.due("turn " + turn, program.speed(i, speed), reference.speed(i, speed));
        }
        askPoints();
        for (int i = 0; i < POINTS; i++) {
            step();
            int number = i;
            CHECK.refused("a 9th PIECE of " + i, program, x -> x.speed(number, 1), FULL);
            CHECK.due("gone " + i, program.gone(i), reference.gone(i));
            CHECK.refused("a 9th PIECE of " + i + ", GONE", program, x -> x.speed(number, 1), KeptMoving.NOT);
        }
        CHECK.refused("an 11th POINT", program, x -> x.point(0, 0), FULL);
    }

    private void step() {
        CHECK.due("go(1)", program.go(1), reference.go(1));
    }

    private void goBack() {
        for (int n : new int[] {0, 13, 33}) {
            CHECK.due("back(" + n + ")", program.back(n), reference.back(n));
        }
    }

    private void askPoints() {
        for (int what = 0; what <= 5; what++) {
            CHECK.due("count(" + what + ")", program.count(what), reference.count(what));
        }
        for (int k = -1; k <= POINTS; k++) {
            CHECK.due("kept(" + k + ")", program.kept(k), reference.kept(k));
            for (int n = 0; n <= 200; n++) {
                CHECK.due("order(" + n + ", 2, " + k + ")", program.order(n, 2, k), reference.order(n, 2, k));
            }
        }
        for (int what = 0; what <= 4; what++) {
            for (int n = 0; n <= 300; n++) {
                CHECK.due("at(" + n + ", 3, " + what + ", 4)", program.at(n, 3, what, 4), reference.at(n, 3, what, 4));
            }
        }
    }

    private void askSpans(int end) {
        for (int i = 0; i < POINTS; i++) {
            askSpan(i, end, NONE, 0);
            for (int k = 0; k < 3; k++) {
                for (int what = 0; what <= 3; what++) {
                    askSpan(i, end, k, what);
                }
            }
        }
    }

    private void askSpan(int i, int end, int k, int what) {
        String asked = i + ", END " + end + ", " + k + ", " + what;
        int j = (i + 3) % POINTS;
        CHECK.due("near " + asked, program.near(i, j, 9, end, k, what), reference.near(i, j, 9, end, k, what));
        CHECK.due("first " + asked, program.first(i, end, k, what), reference.first(i, end, k, what));
        CHECK.due("within " + asked, program.within(5, 40, i + 1, end, k, what),
                reference.within(5, 40, i + 1, end, k, what));
    }

    private void askMeetings() {
        for (int k = NONE; k <= reference.count(3); k++) {
            for (int what = 0; what <= 3; what++) {
                CHECK.due("meeting(" + k + ", " + what + ")", program.meeting(k, what), reference.meeting(k, what));
            }
        }
    }
}
