import java.util.ArrayList;
import java.util.List;
import java.util.TreeSet;

/**
 * The document once more, as slowly and as near to its words as can be, to compare the program with:
 * what was done is kept as a list of deeds, BACK cuts it, and every answer is found by looking at times.
 */
final class Reference {
    private static final int NONE = -1;
    private static final int UNKNOWN = -100001;
    private static final int OUTSIDE = -100002;
    private static final int NOT = -100003;
    private static final int FULL = -100004;

    /** Less than half the least distance of two times of meeting, whose lower numbers are 100 at most. */
    private static final Ratio LITTLE = new Ratio(1, 40000);

    private enum Kind { COMES, TURNS, GOES }

    private record Deed(int time, Kind kind, int point, int place, int speed) {
    }

    private record Met(Ratio time, int i, int j, boolean isPass) {
    }

    private record Span(Ratio begin, Ratio end) {
    }

    /** Whether a thing is so at a time. */
    private interface Thing {
        boolean isSo(Ratio time);
    }

    private final List<Deed> deeds = new ArrayList<>();
    private int now = 0;

    int point(int place, int speed) {
        if (isOut(place, -1000, 1000) || isOut(speed, -50, 50)) {
            return OUTSIDE;
        }
        int number = points();
        if (number == 10) {
            return FULL;
        }
        deeds.add(new Deed(now, Kind.COMES, number, place, speed));
        return number;
    }

    int speed(int i, int v) {
        if (isOut(i, 0, points() - 1)) {
            return UNKNOWN;
        }
        if (isOut(v, -50, 50)) {
            return OUTSIDE;
        }
        if (goneAt(i) != NONE) {
            return NOT;
        }
        if (pieces(i).size() == 8 && !pieces(i).contains(now)) {
            return FULL;
        }
        int former = latestSpeed(i);
        deeds.add(new Deed(now, Kind.TURNS, i, 0, v));
        return former;
    }

    int gone(int i) {
        if (isOut(i, 0, points() - 1)) {
            return UNKNOWN;
        }
        if (goneAt(i) != NONE || cameAt(i) == now) {
            return NOT;
        }
        deeds.add(new Deed(now, Kind.GOES, i, 0, 0));
        return 1;
    }

    int go(int n) {
        if (isOut(n, 0, 100)) {
            return OUTSIDE;
        }
        if (now + n > 400) {
            return NOT;
        }
        now += n;
        return now;
    }

    int back(int n) {
        if (isOut(n, 0, 100)) {
            return OUTSIDE;
        }
        if (now - n < 0) {
            return NOT;
        }
        now -= n;
        deeds.removeIf(deed -> deed.time() >= now);
        return now;
    }

    int count(int what) {
        if (isOut(what, 0, 5)) {
            return OUTSIDE;
        }
        int there = lineUp(Ratio.of(now)).size();
        List<Met> past = what == 3 || what == 4 ? past() : new ArrayList<>();
        int passes = 0;
        for (Met met : past) {
            passes += met.isPass() ? 1 : 0;
        }
        return new int[] {now, points(), there, past.size(), passes, there == 0 ? 0 : there - 1}[what];
    }

    int told(int i, int what) {
        if (isOut(i, 0, points() - 1)) {
            return UNKNOWN;
        }
        if (isOut(what, 0, 3)) {
            return OUTSIDE;
        }
        return new int[] {cameAt(i), goneAt(i), pieces(i).size(), latestSpeed(i)}[what];
    }

    long place(int i, int n, int d, int what) {
        if (isOut(i, 0, points() - 1)) {
            return UNKNOWN;
        }
        if (!isMoment(n, d) || isOut(what, 0, 1)) {
            return OUTSIDE;
        }
        Ratio time = new Ratio(n, d);
        if (!isThere(i, time)) {
            return NOT;
        }
        return what == 0 ? placeAt(i, time).upper() : placeAt(i, time).lower();
    }

    int order(int n, int d, int k) {
        if (!isMoment(n, d)) {
            return OUTSIDE;
        }
        List<Integer> line = lineUp(new Ratio(n, d));
        return isOut(k, 0, line.size() - 1) ? NONE : line.get(k);
    }

    int kept(int k) {
        return order(now, 1, k);
    }

    int at(int n, int d, int what, int width) {
        if (!isMoment(n, d) || isOut(what, 0, 4) || isOut(width, 0, 2000)) {
            return OUTSIDE;
        }
        Ratio time = new Ratio(n, d);
        List<Integer> line = lineUp(time);
        int size = line.size();
        Ratio least = null;
        int closest = NONE;
        int heaps = size == 0 ? 0 : 1;
        for (int s = 0; s + 1 < size; s++) {
            Ratio gap = gap(line.get(s), line.get(s + 1), time);
            if (least == null || gap.compareTo(least) < 0) {
                least = gap;
                closest = s;
            }
            heaps += gap.compareTo(Ratio.of(width)) > 0 ? 1 : 0;
        }
        int one = closest == NONE ? NONE : line.get(closest);
        int other = closest == NONE ? NONE : line.get(closest + 1);
        return new int[] {size, size == 0 ? NONE : line.get(size - 1), one, other, heaps}[what];
    }

    int meeting(int k, int what) {
        if (isOut(what, 0, 3)) {
            return OUTSIDE;
        }
        Met met = k == NONE ? next() : null;
        if (k >= 0) {
            List<Met> past = past();
            met = k < past.size() ? past.get(k) : null;
        }
        if (met == null) {
            return NONE;
        }
        return (int) new long[] {met.time().upper(), met.time().lower(), met.i(), met.j()}[what];
    }

    int near(int i, int j, int width, int end, int k, int what) {
        if (isOut(i, 0, points() - 1) || isOut(j, 0, points() - 1)) {
            return UNKNOWN;
        }
        if (isOut(width, 0, 2000) || isOut(end, 1, 600) || isOut(what, 0, 3)) {
            return OUTSIDE;
        }
        if (i == j) {
            return NOT;
        }
        TreeSet<Ratio> times = wholeTimes(end);
        addCrossings(times, end, i, j, width);
        addCrossings(times, end, i, j, -width);
        return tell(times, k, what, time -> isThere(i, time) && isThere(j, time)
                && gap(i, j, time).compareTo(Ratio.of(width)) <= 0
                && gap(j, i, time).compareTo(Ratio.of(width)) <= 0);
    }

    int first(int i, int end, int k, int what) {
        if (isOut(i, 0, points() - 1)) {
            return UNKNOWN;
        }
        if (isOut(end, 1, 600) || isOut(what, 0, 3)) {
            return OUTSIDE;
        }
        TreeSet<Ratio> times = wholeTimes(end);
        for (int j = 0; j < points(); j++) {
            addCrossings(times, end, i, j, 0);
        }
        return tell(times, k, what, time -> isThere(i, time) && noneIsAbove(i, time));
    }

    int within(int low, int high, int m, int end, int k, int what) {
        if (isOut(low, -60000, 60000) || isOut(high, -60000, 60000) || low > high || isOut(m, 1, 10)
                || isOut(end, 1, 600) || isOut(what, 0, 3)) {
            return OUTSIDE;
        }
        TreeSet<Ratio> times = wholeTimes(end);
        for (int i = 0; i < points(); i++) {
            addCrossings(times, end, NONE, i, low);
            addCrossings(times, end, NONE, i, high);
        }
        return tell(times, k, what, time -> inWindow(low, high, time) >= m);
    }

    private static boolean isOut(int value, int least, int most) {
        return value < least || value > most;
    }

    private static boolean isMoment(int n, int d) {
        return !isOut(d, 1, 200) && n >= 0 && new Ratio(n, d).compareTo(Ratio.of(600)) <= 0;
    }

    private int points() {
        int came = 0;
        for (Deed deed : deeds) {
            came += deed.kind() == Kind.COMES ? 1 : 0;
        }
        return came;
    }

    private int timeOf(int i, Kind kind) {
        for (Deed deed : deeds) {
            if (deed.point() == i && deed.kind() == kind) {
                return deed.time();
            }
        }
        return NONE;
    }

    private int cameAt(int i) {
        return timeOf(i, Kind.COMES);
    }

    private int goneAt(int i) {
        return timeOf(i, Kind.GOES);
    }

    private TreeSet<Integer> pieces(int i) {
        TreeSet<Integer> starts = new TreeSet<>();
        for (Deed deed : deeds) {
            if (deed.point() == i && deed.kind() != Kind.GOES) {
                starts.add(deed.time());
            }
        }
        return starts;
    }

    private int latestSpeed(int i) {
        return speedAt(i, now);
    }

    private int speedAt(int i, int time) {
        int speed = 0;
        for (Deed deed : deeds) {
            if (deed.point() == i && deed.kind() != Kind.GOES && deed.time() <= time) {
                speed = deed.speed();
            }
        }
        return speed;
    }

    private boolean isThere(int i, Ratio time) {
        boolean isGone = goneAt(i) != NONE && time.compareTo(Ratio.of(goneAt(i))) >= 0;
        return time.compareTo(Ratio.of(cameAt(i))) >= 0 && !isGone;
    }

    /** From deed to deed, by the speed in each; NONE stands for a place 0 that is always there. */
    private Ratio placeAt(int i, Ratio time) {
        Ratio place = Ratio.of(0);
        Ratio since = Ratio.of(0);
        int speed = 0;
        for (Deed deed : deeds) {
            boolean isLaw = deed.point() == i && deed.kind() != Kind.GOES;
            if (isLaw && Ratio.of(deed.time()).compareTo(time) <= 0) {
                place = place.plus(Ratio.of(deed.time()).minus(since).times(speed)).plus(Ratio.of(deed.place()));
                since = Ratio.of(deed.time());
                speed = deed.speed();
            }
        }
        return place.plus(time.minus(since).times(speed));
    }

    private Ratio gap(int i, int j, Ratio time) {
        return placeAt(j, time).minus(placeAt(i, time));
    }

    private List<Integer> lineUp(Ratio time) {
        List<Integer> line = new ArrayList<>();
        for (int i = 0; i < points(); i++) {
            if (isThere(i, time)) {
                line.add(i);
            }
        }
        line.sort((i, j) -> placeAt(i, time).compareTo(placeAt(j, time)));
        return line;
    }

    private List<Met> past() {
        List<Met> past = new ArrayList<>();
        for (int i = 0; i < points(); i++) {
            for (int j = i + 1; j < points(); j++) {
                TreeSet<Ratio> times = new TreeSet<>();
                addCrossings(times, now, i, j, 0);
                for (Ratio time : times) {
                    addIfMeeting(past, time, i, j);
                }
            }
        }
        past.sort((one, other) -> one.time().compareTo(other.time()));
        return past;
    }

    private void addIfMeeting(List<Met> found, Ratio time, int i, int j) {
        Ratio ahead = time.minus(LITTLE);
        Ratio behind = time.plus(LITTLE);
        boolean areThere = isThere(i, time) && isThere(j, time) && isThere(i, ahead) && isThere(j, ahead);
        if (areThere && gap(i, j, time).sign() == 0 && gap(i, j, ahead).sign() != 0) {
            boolean isPass = gap(i, j, behind).sign() == -gap(i, j, ahead).sign();
            found.add(new Met(time, i, j, isPass));
        }
    }

    private Met next() {
        Met next = null;
        Ratio today = Ratio.of(now);
        for (int i = 0; i < points(); i++) {
            for (int j = i + 1; j < points(); j++) {
                int closing = speedAt(i, now) - speedAt(j, now);
                boolean areThere = isThere(i, today) && isThere(j, today);
                Ratio wait = !areThere || closing == 0 ? Ratio.of(0) : gap(i, j, today).over(closing);
                boolean isSooner = next == null || today.plus(wait).compareTo(next.time()) < 0;
                if (wait.sign() > 0 && isSooner) {
                    next = new Met(today.plus(wait), i, j, false);
                }
            }
        }
        return next;
    }

    private boolean noneIsAbove(int i, Ratio time) {
        for (int j = 0; j < points(); j++) {
            if (isThere(j, time) && gap(i, j, time).sign() > 0) {
                return false;
            }
        }
        return true;
    }

    private int inWindow(int low, int high, Ratio time) {
        int found = 0;
        for (int i = 0; i < points(); i++) {
            Ratio place = placeAt(i, time);
            boolean isIn = place.compareTo(Ratio.of(low)) >= 0 && place.compareTo(Ratio.of(high)) <= 0;
            found += isThere(i, time) && isIn ? 1 : 0;
        }
        return found;
    }

    private static TreeSet<Ratio> wholeTimes(int end) {
        TreeSet<Ratio> times = new TreeSet<>();
        for (int time = 0; time <= end; time++) {
            times.add(Ratio.of(time));
        }
        return times;
    }

    /** The times up to end at which j stands so much above i: looked for in each time of 1, as laws change at whole ones. */
    private void addCrossings(TreeSet<Ratio> times, int end, int i, int j, int above) {
        for (int time = 0; time < end; time++) {
            int growth = speedAt(j, time) - (i == NONE ? 0 : speedAt(i, time));
            if (growth != 0) {
                Ratio wait = Ratio.of(above).minus(gap(i, j, Ratio.of(time))).over(growth);
                if (wait.sign() >= 0 && wait.compareTo(Ratio.of(1)) <= 0) {
                    times.add(Ratio.of(time).plus(wait));
                }
            }
        }
    }

    /** Between two times that follow one another nothing changes: so the middle tells of all of them. */
    private static int tell(TreeSet<Ratio> times, int k, int what, Thing thing) {
        List<Span> spans = new ArrayList<>();
        Ratio former = null;
        for (Ratio time : times) {
            if (former != null && thing.isSo(former.plus(time).over(2))) {
                add(spans, former, time);
            }
            if (thing.isSo(time)) {
                add(spans, time, time);
            }
            former = time;
        }
        if (k == NONE) {
            return spans.size();
        }
        if (isOut(k, 0, spans.size() - 1)) {
            return NONE;
        }
        Span span = spans.get(k);
        return (int) new long[] {span.begin().upper(), span.begin().lower(), span.end().upper(), span.end().lower()}[what];
    }

    private static void add(List<Span> spans, Ratio begin, Ratio end) {
        int last = spans.size() - 1;
        if (last >= 0 && spans.get(last).end().compareTo(begin) == 0) {
            spans.set(last, new Span(spans.get(last).begin(), end));
        } else {
            spans.add(new Span(begin, end));
        }
    }
}
