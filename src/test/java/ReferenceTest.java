/** Long runs of calls, always the same ones, asked of the program and of the reference alike. */
final class ReferenceTest {
    private static final Check CHECK = new Check("ReferenceTest");
    private static final int CALLS = 512;
    private static final int NONE = KeptMoving.NONE;

    private final KeptMoving program = new KeptMoving();
    private final Reference reference = new Reference();
    private final int run;
    private long dice;
    private final int reach;
    private final int fastest;
    private final int longestStep;
    private final int longestEnd;
    private StringBuilder done = new StringBuilder();

    private ReferenceTest(int run) {
        this.run = run;
        dice = 1000003L * run + 17;
        reach = new int[] {3, 8, 30, 1000}[run % 4];
        fastest = new int[] {1, 3, 7, 50}[run / 4 % 4];
        longestStep = new int[] {1, 2, 5, 40}[run / 16 % 4];
        longestEnd = run % 10 == 0 ? 600 : 40;
    }

    public static void main(String[] args) {
        int runs = args.length > 0 ? Integer.parseInt(args[0]) : 128;
        for (int run = 0; run < runs; run++) {
            new ReferenceTest(run).play();
        }
        CHECK.end();
    }

    private void play() {
        for (int call = 0; call < CALLS; call++) {
            int kind = roll(100);
            if (kind < 30) {
                change(kind);
            } else {
                ask(kind);
            }
        }
    }

    private int roll(int sides) {
        dice = dice * 6364136223846793005L + 1442695040888963407L;
        return (int) ((dice >>> 33) % sides);
    }

    private int from(int least, int most) {
        return roll(50) == 0 ? wild(least, most) : least + roll(most - least + 1);
    }

    private int wild(int least, int most) {
        int[] wilds = {least - 1, most + 1, least, most, -1, 0, Integer.MIN_VALUE, Integer.MAX_VALUE};
        return wilds[roll(wilds.length)];
    }

    private int some() {
        return from(0, Math.max(reference.count(1) - 1, 0));
    }

    private void due(long got, long want, String call, int... numbers) {
        StringBuilder text = new StringBuilder(call).append('(');
        for (int n = 0; n < numbers.length; n++) {
            text.append(n == 0 ? "" : ", ").append(numbers[n]);
        }
        text.append(')');
        if (got != want) {
            CHECK.due("run " + run + " after" + done + ": " + text, got, want);
        } else {
            CHECK.due("", 0, 0);
        }
        boolean isChange = "point speed gone go back".contains(call);
        done.append(isChange ? " " + text : "");
    }

    private void change(int kind) {
        int i = some();
        int n = from(0, longestStep);
        int place = from(-reach, reach);
        int speed = from(-fastest, fastest);
        if (kind < 5) {
            due(program.point(place, speed), reference.point(place, speed), "point", place, speed);
        } else if (kind < 14) {
            due(program.speed(i, speed), reference.speed(i, speed), "speed", i, speed);
        } else if (kind < 16) {
            due(program.gone(i), reference.gone(i), "gone", i);
        } else if (kind < 27) {
            due(program.go(n), reference.go(n), "go", n);
        } else {
            int steps = roll(3) == 0 ? 0 : n;
            due(program.back(steps), reference.back(steps), "back", steps);
        }
    }

    private void ask(int kind) {
        int what = from(0, 3);
        if (kind < 38) {
            int counted = from(0, 5);
            due(program.count(counted), reference.count(counted), "count", counted);
        } else if (kind < 42) {
            int i = some();
            due(program.told(i, what), reference.told(i, what), "told", i, what);
        } else if (kind < 60) {
            askMoment(kind);
        } else if (kind < 76) {
            int k = roll(4) == 0 ? NONE : from(-1, Math.max(reference.count(3), 0));
            due(program.meeting(k, what), reference.meeting(k, what), "meeting", k, what);
        } else {
            askSpan(kind, what);
        }
    }

    private void askMoment(int kind) {
        int d = roll(2) == 0 ? from(1, 6) : from(1, 200);
        int latest = roll(3) == 0 ? 600 : reference.count(0) + 5;
        int n = from(0, Math.min(600, latest) * Math.max(1, Math.min(d, 200)));
        int k = from(0, 10);
        if (kind < 46) {
            int i = some();
            int what = from(0, 1);
            due(program.place(i, n, d, what), reference.place(i, n, d, what), "place", i, n, d, what);
        } else if (kind < 51) {
            due(program.order(n, d, k), reference.order(n, d, k), "order", n, d, k);
        } else if (kind < 54) {
            due(program.kept(k), reference.kept(k), "kept", k);
        } else {
            int what = from(0, 4);
            int width = from(0, Math.min(2000, 2 * reach));
            due(program.at(n, d, what, width), reference.at(n, d, what, width), "at", n, d, what, width);
        }
    }

    private void askSpan(int kind, int what) {
        int i = some();
        int j = some();
        int end = from(1, Math.min(600, roll(2) == 0 ? longestEnd : reference.count(0) + 5));
        int k = roll(3) == 0 ? NONE : from(-1, 4);
        if (kind < 84) {
            int width = from(0, Math.min(2000, reach));
            due(program.near(i, j, width, end, k, what), reference.near(i, j, width, end, k, what),
                    "near", i, j, width, end, k, what);
        } else if (kind < 92) {
            due(program.first(i, end, k, what), reference.first(i, end, k, what), "first", i, end, k, what);
        } else {
            int low = from(-reach, reach);
            int high = roll(10) == 0 ? low : from(low, low + reach);
            int m = roll(2) == 0 ? from(1, 3) : from(1, 10);
            due(program.within(low, high, m, end, k, what), reference.within(low, high, m, end, k, what),
                    "within", low, high, m, end, k, what);
        }
    }
}
