/**
 * Points that move on a line: where they stand, who met whom, and from when to when a thing is so.
 * Words in capitals are those of the document. All rows are made once, by the constructor:
 * no call makes an object, however many calls a run has.
 */
public final class KeptMoving {
    public static final int NONE = -1, UNKNOWN = -100001, OUTSIDE = -100002, NOT = -100003, FULL = -100004;

    private static final int MOST_POINTS = 10;
    private static final int MOST_PIECES = 8;
    private static final int MOST_PAIRS = MOST_POINTS * (MOST_POINTS - 1) / 2;
    /** Each PIECE begins at a bend and each POINT goes at one; time 0 and the last time asked are two more. */
    private static final int MOST_BENDS = MOST_POINTS * (MOST_PIECES + 1) + 2;

    private static final int LAST_NOW = 400;
    private static final int LONGEST_STEP = 100;
    private static final int FARTHEST_START = 1000;
    private static final int FASTEST = 50;
    private static final int LAST_MOMENT = 600;
    private static final int MOST_LOWER = 200;
    private static final int WIDEST = 2000;
    private static final int FARTHEST_EDGE = 60000;
    private static final int LAST_MEETING = 100000;

    private final Course[] courses;
    private int came;
    private int now;

    private final Line line;
    private final int[] bends;
    private int bendCount;
    private final Scene scene;
    private final Meetings meetings;
    private final Stretch stretch;
    private final Crowd crowd;
    private final Spans spans;

    public KeptMoving() {
        courses = new Course[MOST_POINTS];
        for (int i = 0; i < MOST_POINTS; i++) {
            courses[i] = new Course();
        }
        line = new Line();
        bends = new int[MOST_BENDS];
        scene = new Scene();
        meetings = new Meetings();
        stretch = new Stretch();
        crowd = new Crowd();
        spans = new Spans();
    }

    // ---- points

    public int point(int place, int speed) {
        if (!isFromTo(place, -FARTHEST_START, FARTHEST_START) || !isFromTo(speed, -FASTEST, FASTEST)) {
            return OUTSIDE;
        }
        if (came >= MOST_POINTS) {
            return FULL;
        }
        courses[came].begin(now, place, speed);
        came++;
        return came - 1;
    }

    public int speed(int i, int v) {
        if (!isKnown(i)) {
            return UNKNOWN;
        }
        if (!isFromTo(v, -FASTEST, FASTEST)) {
            return OUTSIDE;
        }
        Course course = courses[i];
        if (course.isStopped()) {
            return NOT;
        }
        if (!course.canTurn(now)) {
            return FULL;
        }
        int former = course.latestSpeed();
        course.turn(now, v);
        return former;
    }

    public int gone(int i) {
        if (!isKnown(i)) {
            return UNKNOWN;
        }
        Course course = courses[i];
        if (course.isStopped() || course.began() == now) {
            return NOT;
        }
        course.stop(now);
        return 1;
    }

    public int go(int n) {
        if (!isFromTo(n, 0, LONGEST_STEP)) {
            return OUTSIDE;
        }
        if (now + n > LAST_NOW) {
            return NOT;
        }
        now += n;
        return now;
    }

    public int back(int n) {
        if (!isFromTo(n, 0, LONGEST_STEP)) {
            return OUTSIDE;
        }
        if (n > now) {
            return NOT;
        }
        now -= n;
        undoFromNow();
        return now;
    }

    public int count(int what) {
        switch (what) {
            case 0:
                return now;
            case 1:
                return came;
            case 2:
                lineUp(now, 1);
                return line.size;
            case 3:
                return countPast(false);
            case 4:
                return countPast(true);
            case 5:
                lineUp(now, 1);
                return Math.max(line.size - 1, 0);
            default:
                return OUTSIDE;
        }
    }

    public int told(int i, int what) {
        if (!isKnown(i)) {
            return UNKNOWN;
        }
        Course course = courses[i];
        switch (what) {
            case 0:
                return course.began();
            case 1:
                return course.stopped;
            case 2:
                return course.pieces;
            case 3:
                return course.latestSpeed();
            default:
                return OUTSIDE;
        }
    }

    // ---- moments

    public long place(int i, int n, int d, int what) {
        if (!isKnown(i)) {
            return UNKNOWN;
        }
        if (!isMoment(n, d) || !isFromTo(what, 0, 1)) {
            return OUTSIDE;
        }
        Course course = courses[i];
        if (!course.isThere(n, d)) {
            return NOT;
        }
        long height = Fraction.of(course.upperAt(n, d), d);
        return what == 0 ? Fraction.upper(height) : Fraction.lower(height);
    }

    public int order(int n, int d, int k) {
        if (!isMoment(n, d)) {
            return OUTSIDE;
        }
        lineUp(n, d);
        return line.tell(k);
    }

    public int kept(int k) {
        lineUp(now, 1);
        return line.tell(k);
    }

    public int at(int n, int d, int what, int width) {
        if (!isMoment(n, d) || !isFromTo(what, 0, 4) || !isFromTo(width, 0, WIDEST)) {
            return OUTSIDE;
        }
        lineUp(n, d);
        switch (what) {
            case 0:
                return line.size;
            case 1:
                return line.tell(line.size - 1);
            case 2:
                return line.tell(line.closestUpper() - 1);
            case 3:
                return line.tell(line.closestUpper());
            default:
                return line.heaps(width * d);
        }
    }

    // ---- meetings

    public int meeting(int k, int what) {
        if (!isFromTo(what, 0, 3)) {
            return OUTSIDE;
        }
        if (k == NONE) {
            gatherMeetings(now, LAST_MEETING);
            return meetings.tell(0, what);
        }
        return meetings.tell(gatherAround(k), what);
    }

    // ---- spans

    public int near(int i, int j, int width, int end, int k, int what) {
        if (!isKnown(i) || !isKnown(j)) {
            return UNKNOWN;
        }
        if (!isFromTo(width, 0, WIDEST) || !isSpanAsked(end, what)) {
            return OUTSIDE;
        }
        if (i == j) {
            return NOT;
        }
        spans.seek(k);
        gatherBends(end);
        for (int b = 0; b < bendCount; b++) {
            openStretch(b);
            keepNear(i, j, width);
            spans.addIfSo(stretch);
        }
        return spans.tell(what);
    }

    public int first(int i, int end, int k, int what) {
        if (!isKnown(i)) {
            return UNKNOWN;
        }
        if (!isSpanAsked(end, what)) {
            return OUTSIDE;
        }
        spans.seek(k);
        gatherBends(end);
        for (int b = 0; b < bendCount; b++) {
            openStretch(b);
            keepFirst(i);
            spans.addIfSo(stretch);
        }
        return spans.tell(what);
    }

    public int within(int low, int high, int m, int end, int k, int what) {
        if (!isWindow(low, high) || !isFromTo(m, 1, MOST_POINTS) || !isSpanAsked(end, what)) {
            return OUTSIDE;
        }
        spans.seek(k);
        gatherBends(end);
        for (int b = 0; b < bendCount; b++) {
            openStretch(b);
            gatherCrowd(low, high);
            addCrowded(m);
        }
        return spans.tell(what);
    }

    // ---- bounds

    private static boolean isFromTo(int value, int least, int most) {
        return value >= least && value <= most;
    }

    private boolean isKnown(int i) {
        return i >= 0 && i < came;
    }

    private static boolean isMoment(int n, int d) {
        return isFromTo(d, 1, MOST_LOWER) && isFromTo(n, 0, LAST_MOMENT * d);
    }

    private static boolean isSpanAsked(int end, int what) {
        return isFromTo(end, 1, LAST_MOMENT) && isFromTo(what, 0, 3);
    }

    private static boolean isWindow(int low, int high) {
        return low >= -FARTHEST_EDGE && low <= high && high <= FARTHEST_EDGE;
    }

    // ---- how the answers are found

    /** POINTS come in the order of their numbers, so those that now never came are the last ones. */
    private void undoFromNow() {
        while (came > 0 && courses[came - 1].began() >= now) {
            came--;
        }
        for (int i = 0; i < came; i++) {
            courses[i].undoFrom(now);
        }
    }

    private void lineUp(int n, int d) {
        line.clear();
        for (int i = 0; i < came; i++) {
            if (courses[i].isThere(n, d)) {
                line.insert(i, courses[i].upperAt(n, d));
            }
        }
    }

    /** Between one bend and the next all laws are straight, and who is there stays there: each question is easy there. */
    private void gatherBends(int last) {
        bends[0] = 0;
        bendCount = 1;
        while (bendCount < bends.length && bends[bendCount - 1] < last) {
            bends[bendCount] = nextBend(bends[bendCount - 1], last);
            bendCount++;
        }
    }

    private int nextBend(int after, int last) {
        int next = last;
        for (int i = 0; i < came; i++) {
            next = courses[i].nextBend(after, next);
        }
        return next;
    }

    private int countPast(boolean onlyPasses) {
        int found = 0;
        gatherBends(now);
        for (int b = 1; b < bendCount; b++) {
            gatherMeetings(bends[b - 1], bends[b]);
            found += onlyPasses ? meetings.passes : meetings.size;
        }
        return found;
    }

    /** Gathers the meetings between the two bends that have MEETING k of the PAST between them: its number among these. */
    private int gatherAround(int k) {
        int left = k;
        gatherBends(now);
        for (int b = 1; b < bendCount && left >= 0; b++) {
            gatherMeetings(bends[b - 1], bends[b]);
            if (left < meetings.size) {
                return left;
            }
            left -= meetings.size;
        }
        return NONE;
    }

    private void look(int time) {
        scene.clear();
        for (int i = 0; i < came; i++) {
            scene.add(courses[i], time);
        }
    }

    /** Gathers the meetings above from, up to until; no law may change between the two. */
    private void gatherMeetings(int from, int until) {
        meetings.clear();
        look(from);
        for (int i = 0; i < came; i++) {
            for (int j = i + 1; j < came; j++) {
                if (scene.has(i) && scene.has(j)) {
                    addMeeting(i, j, from, until);
                }
            }
        }
    }

    private void addMeeting(int i, int j, int from, int until) {
        int gap = scene.gap(i, j);
        int growth = scene.growth(i, j);
        boolean theyClose = gap < 0 && growth > 0 || gap > 0 && growth < 0;
        if (!theyClose) {
            return;
        }
        long time = Fraction.past(from, Math.abs(gap), Math.abs(growth));
        int side = Fraction.compare(time, Fraction.whole(until));
        if (side < 0) {
            meetings.insert(time, i, j, true);
        } else if (side == 0) {
            addMeetingAtBend(i, j, until, growth);
        }
    }

    /** Who goes at a bend is not there any more, and other laws may hold behind it. */
    private void addMeetingAtBend(int i, int j, int time, int growthAhead) {
        Course one = courses[i];
        Course other = courses[j];
        if (one.isThere(time, 1) && other.isThere(time, 1)) {
            int growthBehind = other.speedAt(time) - one.speedAt(time);
            meetings.insert(Fraction.whole(time), i, j, growthAhead * growthBehind > 0);
        }
    }

    /** Behind the last bend only that time itself is left: a stretch without length. */
    private void openStretch(int b) {
        look(bends[b]);
        stretch.open(bends[b], b + 1 < bendCount ? bends[b + 1] : bends[b]);
    }

    private void keepNear(int i, int j, int width) {
        if (!scene.has(i) || !scene.has(j)) {
            stretch.keepNothing();
            return;
        }
        stretch.keepAtMost(scene.gap(i, j), scene.growth(i, j), width);
        stretch.keepAtMost(scene.gap(j, i), scene.growth(j, i), width);
    }

    private void keepFirst(int i) {
        if (!scene.has(i)) {
            stretch.keepNothing();
            return;
        }
        for (int j = 0; j < came; j++) {
            if (scene.has(j)) {
                stretch.keepAtMost(scene.gap(i, j), scene.growth(i, j), 0);
            }
        }
    }

    private void gatherCrowd(int low, int high) {
        crowd.clear();
        for (int i = 0; i < came; i++) {
            if (scene.has(i)) {
                stretch.keepAll();
                stretch.keepAtMost(scene.places[i], scene.speeds[i], high);
                stretch.keepAtMost(-scene.places[i], -scene.speeds[i], -low);
                crowd.addIfSo(stretch);
            }
        }
    }

    /** Goes through the crowd's begins and ends in time; begins before like ends, for who leaves is still in at that time. */
    private void addCrowded(int m) {
        int begun = 0;
        long begin = 0;
        for (int ended = 0; ended < crowd.size; ended++) {
            long end = crowd.ends[ended];
            while (begun < crowd.size && Fraction.compare(crowd.begins[begun], end) <= 0) {
                begun++;
                if (begun - ended == m) {
                    begin = crowd.begins[begun - 1];
                }
            }
            if (begun - ended == m) {
                spans.add(begin, end);
            }
        }
    }

    /** The law of one POINT, PIECE by PIECE, and when it is there. */
    private static final class Course {
        private final int[] starts = new int[MOST_PIECES];
        private final int[] places = new int[MOST_PIECES];
        private final int[] speeds = new int[MOST_PIECES];
        private int pieces = 1;
        private int stopped = NONE;

        private void begin(int time, int place, int speed) {
            pieces = 1;
            stopped = NONE;
            starts[0] = time;
            places[0] = place;
            speeds[0] = speed;
        }

        private int began() {
            return starts[0];
        }

        private boolean isStopped() {
            return stopped != NONE;
        }

        private void stop(int time) {
            stopped = time;
        }

        private boolean canTurn(int time) {
            return pieces < MOST_PIECES || starts[MOST_PIECES - 1] == time;
        }

        private int latestSpeed() {
            return speeds[pieces - 1];
        }

        private void turn(int time, int speed) {
            if (starts[pieces - 1] != time && pieces < MOST_PIECES) {
                starts[pieces] = time;
                places[pieces] = placeAt(time);
                pieces++;
            }
            speeds[pieces - 1] = speed;
        }

        private void undoFrom(int time) {
            while (pieces > 1 && starts[pieces - 1] >= time) {
                pieces--;
            }
            if (stopped >= time) {
                stopped = NONE;
            }
        }

        private boolean isThere(int n, int d) {
            return starts[0] * d <= n && (stopped == NONE || n < stopped * d);
        }

        private int pieceAt(int n, int d) {
            int piece = 0;
            for (int p = 1; p < pieces; p++) {
                if (starts[p] * d <= n) {
                    piece = p;
                }
            }
            return piece;
        }

        /** The upper number of the PLACE at n / d, over d: over one lower number PLACES are compared as they are. */
        private int upperAt(int n, int d) {
            int piece = pieceAt(n, d);
            return places[piece] * d + speeds[piece] * (n - starts[piece] * d);
        }

        private int placeAt(int time) {
            return upperAt(time, 1);
        }

        private int speedAt(int time) {
            return speeds[pieceAt(time, 1)];
        }

        private int nextBend(int after, int last) {
            int next = last;
            for (int p = 0; p < pieces; p++) {
                if (starts[p] > after) {
                    next = Math.min(next, starts[p]);
                }
            }
            if (stopped > after) {
                next = Math.min(next, stopped);
            }
            return next;
        }
    }

    /** A fraction in one long, the upper number above eight bits of the lower one: so no fraction needs an object. */
    private static final class Fraction {
        private static final int LOWER_BITS = 8;
        private static final int LOWER_MASK = 255;
        private static final int MOST_ROUNDS = 64;

        /** Always in least terms: like fractions are like longs. */
        private static long of(int upper, int lower) {
            int common = commonDivisor(Math.abs(upper), lower);
            if (common < 1) {
                return whole(0);
            }
            return ((long) (upper / common) << LOWER_BITS) | (lower / common);
        }

        private static long whole(int number) {
            return ((long) number << LOWER_BITS) | 1;
        }

        /** The time that lies upper / lower past a whole one. */
        private static long past(int from, int upper, int lower) {
            return of(from * lower + upper, lower);
        }

        private static int upper(long fraction) {
            return (int) (fraction >> LOWER_BITS);
        }

        private static int lower(long fraction) {
            return (int) (fraction & LOWER_MASK);
        }

        private static int compare(long one, long other) {
            return Long.compare((long) upper(one) * lower(other), (long) upper(other) * lower(one));
        }

        private static int commonDivisor(int one, int other) {
            int big = one;
            int small = other;
            for (int round = 0; round < MOST_ROUNDS && small > 0; round++) {
                int rest = big % small;
                big = small;
                small = rest;
            }
            return big;
        }
    }

    /** Who is there at one whole time, where, and with which SPEED from then on. */
    private static final class Scene {
        private final boolean[] isThere = new boolean[MOST_POINTS];
        private final int[] places = new int[MOST_POINTS];
        private final int[] speeds = new int[MOST_POINTS];
        private int size;

        private void clear() {
            size = 0;
        }

        private void add(Course course, int time) {
            if (size >= MOST_POINTS) {
                return;
            }
            isThere[size] = course.isThere(time, 1);
            places[size] = course.placeAt(time);
            speeds[size] = course.speedAt(time);
            size++;
        }

        private boolean has(int i) {
            return i >= 0 && i < size && isThere[i];
        }

        /** How far j stands above i. */
        private int gap(int i, int j) {
            return places[j] - places[i];
        }

        /** How fast that grows. */
        private int growth(int i, int j) {
            return speeds[j] - speeds[i];
        }
    }

    /** The ORDER at one MOMENT. */
    private static final class Line {
        private final int[] numbers = new int[MOST_POINTS];
        private final int[] uppers = new int[MOST_POINTS];
        private int size;

        private void clear() {
            size = 0;
        }

        /** To be called in the order of numbers: then like ones stay in it. */
        private void insert(int number, int upper) {
            if (size >= MOST_POINTS) {
                return;
            }
            int spot = size;
            while (spot > 0 && uppers[spot - 1] > upper) {
                numbers[spot] = numbers[spot - 1];
                uppers[spot] = uppers[spot - 1];
                spot--;
            }
            numbers[spot] = number;
            uppers[spot] = upper;
            size++;
        }

        private int tell(int k) {
            return k >= 0 && k < size ? numbers[k] : NONE;
        }

        /** Where the second one of the CLOSEST stands. */
        private int closestUpper() {
            int closest = NONE;
            int least = 0;
            for (int s = 1; s < size; s++) {
                int gap = uppers[s] - uppers[s - 1];
                if (closest == NONE || gap < least) {
                    closest = s;
                    least = gap;
                }
            }
            return closest;
        }

        private int heaps(int widthUpper) {
            int heaps = Math.min(size, 1);
            for (int s = 1; s < size; s++) {
                if (uppers[s] - uppers[s - 1] > widthUpper) {
                    heaps++;
                }
            }
            return heaps;
        }
    }

    /** MEETINGS between two bends: at most one of each pair, in their order. */
    private static final class Meetings {
        private final long[] times = new long[MOST_PAIRS];
        private final int[] ones = new int[MOST_PAIRS];
        private final int[] others = new int[MOST_PAIRS];
        private int size;
        private int passes;

        private void clear() {
            size = 0;
            passes = 0;
        }

        /** To be called in the order of pairs: then those of one time stay in it. */
        private void insert(long time, int i, int j, boolean isPass) {
            if (size >= MOST_PAIRS) {
                return;
            }
            int spot = size;
            while (spot > 0 && Fraction.compare(times[spot - 1], time) > 0) {
                times[spot] = times[spot - 1];
                ones[spot] = ones[spot - 1];
                others[spot] = others[spot - 1];
                spot--;
            }
            times[spot] = time;
            ones[spot] = i;
            others[spot] = j;
            size++;
            if (isPass) {
                passes++;
            }
        }

        private int tell(int number, int what) {
            if (number < 0 || number >= size) {
                return NONE;
            }
            switch (what) {
                case 0:
                    return Fraction.upper(times[number]);
                case 1:
                    return Fraction.lower(times[number]);
                case 2:
                    return ones[number];
                default:
                    return others[number];
            }
        }
    }

    /** The times between two bends at which all that was kept is so: one piece, as the laws are straight there. */
    private static final class Stretch {
        private int from;
        private long until;
        private long begin;
        private long end;
        private boolean isNothing;

        private void open(int first, int last) {
            from = first;
            until = Fraction.whole(last);
            keepAll();
        }

        private void keepAll() {
            begin = Fraction.whole(from);
            end = until;
            isNothing = false;
        }

        private void keepNothing() {
            isNothing = true;
        }

        /** Keeps the times at which what is value at from, and grows by growth, is at most bound. */
        private void keepAtMost(int value, int growth, int bound) {
            if (growth > 0) {
                long latest = Fraction.past(from, bound - value, growth);
                end = Fraction.compare(latest, end) < 0 ? latest : end;
            } else if (growth < 0) {
                long earliest = Fraction.past(from, value - bound, -growth);
                begin = Fraction.compare(earliest, begin) > 0 ? earliest : begin;
            } else if (value > bound) {
                keepNothing();
            }
        }

        /** What begins only with the next stretch is told there: who is there may be others then. */
        private boolean isSo() {
            boolean isLeftToNext = begin == until && from != Fraction.upper(until);
            return !isNothing && !isLeftToNext && Fraction.compare(begin, end) <= 0;
        }
    }

    /** The stays of POINTS in a window between two bends: when they begin and, each for itself, when they end. */
    private static final class Crowd {
        private final long[] begins = new long[MOST_POINTS];
        private final long[] ends = new long[MOST_POINTS];
        private int size;

        private void clear() {
            size = 0;
        }

        private void addIfSo(Stretch stretch) {
            if (size < MOST_POINTS && stretch.isSo()) {
                insert(begins, stretch.begin);
                insert(ends, stretch.end);
                size++;
            }
        }

        private void insert(long[] row, long time) {
            int spot = size;
            while (spot > 0 && Fraction.compare(row[spot - 1], time) > 0) {
                row[spot] = row[spot - 1];
                spot--;
            }
            row[spot] = time;
        }
    }

    /** Counts SPANS as they are added in time, and keeps the one that is sought. */
    private static final class Spans {
        private int sought;
        private int size;
        private long latestEnd;
        private long foundBegin;
        private long foundEnd;

        private void seek(int k) {
            sought = k;
            size = 0;
        }

        private void addIfSo(Stretch stretch) {
            if (stretch.isSo()) {
                add(stretch.begin, stretch.end);
            }
        }

        private void add(long begin, long end) {
            boolean touches = size > 0 && Fraction.compare(begin, latestEnd) <= 0;
            if (!touches) {
                size++;
                if (size - 1 == sought) {
                    foundBegin = begin;
                }
            }
            latestEnd = end;
            if (size - 1 == sought) {
                foundEnd = end;
            }
        }

        private int tell(int what) {
            if (sought == NONE) {
                return size;
            }
            if (sought < 0 || sought >= size) {
                return NONE;
            }
            long told = what < 2 ? foundBegin : foundEnd;
            return what % 2 == 0 ? Fraction.upper(told) : Fraction.lower(told);
        }
    }
}
