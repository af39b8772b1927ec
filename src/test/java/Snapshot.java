/** All that tells one state of an object from another one, as text. */
final class Snapshot {
    private Snapshot() {
    }

    static String of(Subject x) {
        StringBuilder text = new StringBuilder();
        for (int what = 0; what <= 5; what++) {
            text.append(x.count(what)).append(' ');
        }
        for (int i = 0; i < x.count(1); i++) {
            text.append("; point ").append(i).append(':');
            for (int what = 0; what <= 3; what++) {
                text.append(' ').append(x.told(i, what));
            }
            for (int time = 0; time <= 600; time += time < 20 ? 1 : 29) {
                text.append(' ').append(x.place(i, time, 1, 0));
            }
        }
        text.append("; kept:");
        for (int k = 0; k < 10; k++) {
            text.append(' ').append(x.kept(k));
        }
        text.append("; meetings:");
        for (int k = KeptMoving.NONE; k < x.count(3); k++) {
            text.append(' ').append(x.meeting(k, 0)).append('/').append(x.meeting(k, 1));
            text.append(' ').append(x.meeting(k, 2)).append(' ').append(x.meeting(k, 3));
        }
        return text.toString();
    }

    /** Every SPAN of NEAR, FIRST or WITHIN as text: "2: 0/1-5/1 7/2-4/1"; here those of NEAR. */
    static String near(Subject x, int i, int j, int width, int end) {
        int size = x.near(i, j, width, end, KeptMoving.NONE, 0);
        StringBuilder text = new StringBuilder().append(size).append(':');
        for (int k = 0; k < size; k++) {
            append(text, x.near(i, j, width, end, k, 0), x.near(i, j, width, end, k, 1),
                    x.near(i, j, width, end, k, 2), x.near(i, j, width, end, k, 3));
        }
        return text.toString();
    }

    static String first(Subject x, int i, int end) {
        int size = x.first(i, end, KeptMoving.NONE, 0);
        StringBuilder text = new StringBuilder().append(size).append(':');
        for (int k = 0; k < size; k++) {
            append(text, x.first(i, end, k, 0), x.first(i, end, k, 1), x.first(i, end, k, 2), x.first(i, end, k, 3));
        }
        return text.toString();
    }

    static String within(Subject x, int low, int high, int m, int end) {
        int size = x.within(low, high, m, end, KeptMoving.NONE, 0);
        StringBuilder text = new StringBuilder().append(size).append(':');
        for (int k = 0; k < size; k++) {
            append(text, x.within(low, high, m, end, k, 0), x.within(low, high, m, end, k, 1),
                    x.within(low, high, m, end, k, 2), x.within(low, high, m, end, k, 3));
        }
        return text.toString();
    }

    /** Every MEETING of the PAST as text: "2: 5/1 0 1, 35/4 0 1". */
    static String meetings(Subject x) {
        int size = x.count(3);
        StringBuilder text = new StringBuilder().append(size).append(':');
        for (int k = 0; k < size; k++) {
            text.append(k == 0 ? " " : ", ").append(meeting(x, k));
        }
        return text.toString();
    }

    static String meeting(Subject x, int k) {
        return x.meeting(k, 0) + "/" + x.meeting(k, 1) + " " + x.meeting(k, 2) + " " + x.meeting(k, 3);
    }

    private static void append(StringBuilder text, int beginUpper, int beginLower, int endUpper, int endLower) {
        text.append(' ').append(beginUpper).append('/').append(beginLower);
        text.append('-').append(endUpper).append('/').append(endLower);
    }
}
