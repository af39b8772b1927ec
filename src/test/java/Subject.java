import java.util.ArrayList;
import java.util.List;
import java.util.function.ToLongFunction;

/**
 * The program as the tests ask it. What an object answers after its 512th call is free: so after as many a new one
 * is made, and all that was done is done on it once more, which must be answered as it was before.
 */
final class Subject {
    private static final int MOST_CALLS = 512;

    private record Deed(ToLongFunction<KeptMoving> call, long answer) {
    }

    private final List<Deed> deeds = new ArrayList<>();
    private KeptMoving program = new KeptMoving();
    private int calls;

    int point(int place, int speed) {
        return (int) done(x -> x.point(place, speed));
    }

    int speed(int i, int v) {
        return (int) done(x -> x.speed(i, v));
    }

    int gone(int i) {
        return (int) done(x -> x.gone(i));
    }

    int go(int n) {
        return (int) done(x -> x.go(n));
    }

    int back(int n) {
        return (int) done(x -> x.back(n));
    }

    int count(int what) {
        return (int) asked(x -> x.count(what));
    }

    int told(int i, int what) {
        return (int) asked(x -> x.told(i, what));
    }

    long place(int i, int n, int d, int what) {
        return asked(x -> x.place(i, n, d, what));
    }

    int order(int n, int d, int k) {
        return (int) asked(x -> x.order(n, d, k));
    }

    int kept(int k) {
        return (int) asked(x -> x.kept(k));
    }

    int at(int n, int d, int what, int width) {
        return (int) asked(x -> x.at(n, d, what, width));
    }

    int meeting(int k, int what) {
        return (int) asked(x -> x.meeting(k, what));
    }

    int near(int i, int j, int width, int end, int k, int what) {
        return (int) asked(x -> x.near(i, j, width, end, k, what));
    }

    int first(int i, int end, int k, int what) {
        return (int) asked(x -> x.first(i, end, k, what));
    }

    int within(int low, int high, int m, int end, int k, int what) {
        return (int) asked(x -> x.within(low, high, m, end, k, what));
    }

    /** A call that is made once more on each new object: one that changes something, or must not. */
    long done(ToLongFunction<KeptMoving> call) {
        long answer = asked(call);
        deeds.add(new Deed(call, answer));
        return answer;
    }

    private long asked(ToLongFunction<KeptMoving> call) {
        if (calls == MOST_CALLS) {
            renew();
        }
        calls++;
        return call.applyAsLong(program);
    }

    private void renew() {
        if (deeds.size() >= MOST_CALLS) {
            throw new IllegalStateException("more was done than an object is used for");
        }
        program = new KeptMoving();
        calls = deeds.size();
        for (Deed deed : deeds) {
            long answer = deed.call().applyAsLong(program);
            if (answer != deed.answer()) {
                throw new IllegalStateException("done once more it answered " + answer + ", not " + deed.answer());
            }
        }
    }
}
