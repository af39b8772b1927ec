import java.util.function.ToLongFunction;

/** Compares answers with those that are due, and tells at the end whether all were. */
final class Check {
    private final String name;
    private int asked = 0;
    private int wrong = 0;

    Check(String name) {
        this.name = name;
    }

    void due(String call, long got, long want) {
        asked++;
        if (got != want) {
            wrong++;
            System.out.println(name + ": " + call + " answered " + got + ", due is " + want);
        }
    }

    void dueText(String call, String got, String want) {
        asked++;
        if (!got.equals(want)) {
            wrong++;
            System.out.println(name + ": " + call + "\n  answered " + got + "\n  due is   " + want);
        }
    }

    /** A call that is refused answers so, and changes nothing that can be asked. */
    void refused(String call, Subject x, ToLongFunction<KeptMoving> asking, long want) {
        String before = Snapshot.of(x);
        due(call, x.done(asking), want);
        dueText("all there is to ask after the refused " + call, Snapshot.of(x), before);
    }

    void end() {
        System.out.println(name + ": " + asked + " answers, " + wrong + " wrong");
        if (wrong != 0) {
            System.exit(1);
        }
    }
}
