/** Promise 13 (and the MEETINGS of promise 7): those of the PAST and THE NEXT one. */
final class MeetingsTest {
    private static final int NONE = KeptMoving.NONE;
    private static final int OUTSIDE = KeptMoving.OUTSIDE;
    private static final String NO_MEETING = "-1/-1 -1 -1";

    private static final Check CHECK = new Check("MeetingsTest");

    public static void main(String[] args) {
        ordered();
        onlyWhatWasUnlikeRightAhead();
        onlyWhileBothAreThere();
        turnsAndTogether();
        theNext();
        theFarthest();
        allPairsManyTimes();
        whateverWasAskedBefore();
        goneLater();
        comesJustThen();
        aboveOrBelowAhead();
        atTheLastNow();
        refusals();
        CHECK.end();
    }

    private static void past(String when, Subject x, int passes, String want) {
        CHECK.dueText("meetings " + when, Snapshot.meetings(x), want);
        CHECK.due("passes " + when, x.count(4), passes);
    }

    private static void next(String when, Subject x, String want) {
        CHECK.dueText("the next meeting " + when, Snapshot.meeting(x, NONE), want);
    }

    /** By MOMENTS, those of one MOMENT by i, then j; a MOMENT in least terms. */
    private static void ordered() {
        Subject x = new Subject();
        x.point(6, 0);
        x.point(0, 2);
        x.point(12, -2);
        x.point(4, 4);
        past("at 0", x, 0, "0:");
        next("at 0", x, "1/2 0 3");
        x.go(2);
        past("at 2", x, 2, "2: 1/2 0 3, 4/3 2 3");
        next("at 2", x, "3/1 0 1");
        x.go(1);
        past("at 3", x, 5, "5: 1/2 0 3, 4/3 2 3, 3/1 0 1, 3/1 0 2, 3/1 1 2");
        next("at 3", x, NO_MEETING);
    }

    private static void onlyWhatWasUnlikeRightAhead() {
        Subject x = new Subject();
        x.point(5, 0);
        x.point(5, 1);
        past("come at one PLACE", x, 0, "0:");
        x.go(4);
        past("later", x, 0, "0:");
        x.point(9, 3);
        past("come onto another one", x, 0, "0:");
        next("come onto another one", x, NO_MEETING);
        x.go(1);
        past("later on", x, 0, "0:");
    }

    private static void onlyWhileBothAreThere() {
        Subject x = new Subject();
        x.point(0, 1);
        x.point(5, 0);
        x.point(10, -2);
        x.go(3);
        past("at 3", x, 1, "1: 5/2 1 2");
        x.go(2);
        past("at 5", x, 3, "3: 5/2 1 2, 10/3 0 2, 5/1 0 1");
        x.gone(1);
        past("with 1 GONE at 5", x, 2, "2: 5/2 1 2, 10/3 0 2");
        x.go(1);
        past("at 6", x, 2, "2: 5/2 1 2, 10/3 0 2");
        x.back(1);
        past("at 5 again", x, 3, "3: 5/2 1 2, 10/3 0 2, 5/1 0 1");
        x.back(1);
        x.gone(1);
        next("with 1 GONE at 4", x, NO_MEETING);
    }

    /** A MEETING at which laws change is one, told once, whatever comes behind it. */
    private static void turnsAndTogether() {
        Subject x = new Subject();
        x.point(0, 1);
        x.point(4, 0);
        x.go(4);
        x.speed(0, 0);
        past("together from 4 on", x, 0, "1: 4/1 0 1");
        next("together from 4 on", x, NO_MEETING);
        x.go(2);
        x.speed(0, 2);
        past("apart from 6 on", x, 0, "1: 4/1 0 1");
        x.go(1);
        x.speed(0, -1);
        next("back again", x, "9/1 0 1");
        x.go(2);
        x.speed(0, 1);
        past("turned at 9", x, 0, "2: 4/1 0 1, 9/1 0 1");
        x.go(1);
        x.speed(0, -4);
        x.go(1);
        past("passed at 41/4", x, 1, "3: 4/1 0 1, 9/1 0 1, 41/4 0 1");
        x.speed(0, 3);
        next("and again", x, "12/1 0 1");
        x.go(1);
        x.speed(0, 2);
        x.go(1);
        past("passed where it turned", x, 2, "4: 4/1 0 1, 9/1 0 1, 41/4 0 1, 12/1 0 1");
    }

    private static void theNext() {
        Subject x = new Subject();
        next("without points", x, NO_MEETING);
        x.point(0, 50);
        next("with one", x, NO_MEETING);
        x.point(1, -50);
        next("at 0", x, "1/100 0 1");
        x.point(3, 0);
        x.point(-3, 0);
        x.speed(0, 0);
        next("of two at one time", x, "1/50 0 1");
        x.speed(1, 0);
        next("with none moving", x, NO_MEETING);
        x.speed(0, 1);
        x.go(1);
        next("not that at NOW", x, "3/1 0 2");
        past("but in the PAST", x, 1, "1: 1/1 0 1");
        x.speed(3, 7);
        next("by the laws as they are", x, "11/7 1 3");
    }

    /** No PLACE at NOW is farther than 21000 from 0: so 42400 is the latest MOMENT there can be. */
    private static void theFarthest() {
        Subject x = new Subject();
        x.point(-1000, -50);
        x.point(1000, 50);
        for (int step = 0; step < 4; step++) {
            x.go(100);
        }
        x.speed(1, 0);
        x.speed(0, 1);
        next("at 400, one by one", x, "42400/1 0 1");
        x.speed(1, -50);
        x.speed(0, 49);
        next("at 400, fast", x, "27200/33 0 1");
        past("at 400", x, 0, "0:");
    }

    /** Ten points that all turn back and forth: every pair meets in every stretch, 45 times seven. */
    private static void allPairsManyTimes() {
        Subject x = new Subject();
        for (int i = 0; i < 10; i++) {
            x.point(i, -2 * i);
        }
        x.go(1);
        for (int turn = 1; turn < 8; turn++) {
            for (int i = 0; i < 10; i++) {
                x.speed(i, turn % 2 == 0 ? -2 * i : 2 * i);
            }
            x.go(1);
        }
        CHECK.due("meetings of all", x.count(3), 45 * 8);
        CHECK.due("passes of all", x.count(4), 45 * 8);
        CHECK.dueText("the first of all", Snapshot.meeting(x, 0), "1/2 0 1");
        CHECK.dueText("the 46th of all", Snapshot.meeting(x, 45), "3/2 0 1");
        CHECK.dueText("the last of all", Snapshot.meeting(x, 359), "15/2 8 9");
        CHECK.dueText("none behind the last", Snapshot.meeting(x, 360), NO_MEETING);
    }

    /** What was foretold for the spans is not of the PAST. */
    private static void whateverWasAskedBefore() {
        Subject x = new Subject();
        x.point(0, 1);
        x.point(9, 0);
        x.go(1);
        x.speed(1, 1);
        x.go(1);
        x.speed(1, 0);
        CHECK.dueText("near, foretold at 2", Snapshot.near(x, 0, 1, 0, 600), "1: 10/1-10/1");
        CHECK.dueText("meeting 0 of none, where a law changes", Snapshot.meeting(x, 0), NO_MEETING);
        past("with none, where a law changes", x, 0, "0:");
        x.go(1);
        CHECK.dueText("near, foretold", Snapshot.near(x, 0, 1, 0, 600), "1: 10/1-10/1");
        past("with none yet", x, 0, "0:");
        x.back(2);
        past("after back", x, 0, "0:");
        CHECK.dueText("meeting 0 of none", Snapshot.meeting(x, 0), NO_MEETING);
    }

    private static void refusals() {
        Subject x = new Subject();
        x.point(0, 1);
        x.point(1, 0);
        x.go(1);
        CHECK.refused("meeting(0, 4)", x, y -> y.meeting(0, 4), OUTSIDE);
        CHECK.refused("meeting(0, -1)", x, y -> y.meeting(0, -1), OUTSIDE);
        CHECK.refused("meeting(NONE, 4)", x, y -> y.meeting(NONE, 4), OUTSIDE);
        CHECK.refused("meeting(7, 4)", x, y -> y.meeting(7, 4), OUTSIDE);
        CHECK.dueText("meeting 1 of one", Snapshot.meeting(x, 1), NO_MEETING);
        CHECK.dueText("meeting -2", Snapshot.meeting(x, -2), NO_MEETING);
        CHECK.dueText("meeting least", Snapshot.meeting(x, Integer.MIN_VALUE), NO_MEETING);
        CHECK.dueText("meeting most", Snapshot.meeting(x, Integer.MAX_VALUE), NO_MEETING);
    }

    /** Who is GONE at the MOMENT itself met nobody then; who is GONE at the next NOW did. Here a law changes then, too. */
    private static void goneLater() {
        for (int who = 0; who <= 1; who++) {
            Subject x = new Subject();
            x.point(0, 1);
            x.point(4, 0);
            x.go(4);
            x.speed(1 - who, who == 0 ? -2 : 3);
            past("at the MOMENT", x, 1, "1: 4/1 0 1");
            x.gone(who);
            past("GONE at the MOMENT", x, 0, "0:");
            x.back(0);
            x.speed(1 - who, who == 0 ? -2 : 3);
            x.go(1);
            x.gone(who);
            past("GONE one later", x, 1, "1: 4/1 0 1");
            x.go(100);
            past("GONE long since", x, 1, "1: 4/1 0 1");
        }
    }

    /** Right ahead of the MOMENT both must be there: who comes just then has met nobody, who came one before has. */
    private static void comesJustThen() {
        Subject x = new Subject();
        x.point(0, 2);
        x.go(4);
        x.point(10, 0);
        x.go(1);
        x.point(10, -1);
        past("at 5", x, 1, "1: 5/1 0 1");
        next("at 5", x, NO_MEETING);
        x.go(10);
        past("at 15", x, 1, "1: 5/1 0 1");
    }

    /** i is the lower number, whoever is ahead; it is a PASS only if the other one is ahead behind it. */
    private static void aboveOrBelowAhead() {
        for (int side = -1; side <= 1; side += 2) {
            Subject x = new Subject();
            x.point(0, 0);
            x.point(6 * side, -2 * side);
            next("from the side " + side, x, "3/1 0 1");
            x.go(3);
            past("gone on", x, 1, "1: 3/1 0 1");
            x.speed(1, -side);
            past("gone on slower", x, 1, "1: 3/1 0 1");
            x.speed(1, 0);
            past("stopped there", x, 0, "1: 3/1 0 1");
            x.speed(1, side);
            past("turned", x, 0, "1: 3/1 0 1");
            x.speed(0, 2 * side);
            past("turned, and the other one, too, faster", x, 1, "1: 3/1 0 1");
            x.speed(0, side);
            past("going on together", x, 0, "1: 3/1 0 1");
        }
    }

    /** At 400 nothing is above NOW but what is FORETOLD. */
    private static void atTheLastNow() {
        Subject x = new Subject();
        x.point(0, 1);
        x.point(400, 0);
        x.point(401, -50);
        x.speed(2, 0);
        for (int step = 0; step < 4; step++) {
            x.go(100);
        }
        past("at 400", x, 1, "1: 400/1 0 1");
        next("at 400", x, "401/1 0 2");
        x.speed(2, -49);
        next("by the laws as they are", x, "20001/50 0 2");
        x.speed(1, 50);
        next("of three", x, "39601/99 1 2");
        x.gone(1);
        past("with 1 GONE at 400", x, 0, "0:");
        next("with 1 GONE at 400", x, "20001/50 0 2");
    }
}
