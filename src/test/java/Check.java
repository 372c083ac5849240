/** What tests say and count: each answer that is not the one that is due is printed. */
final class Check {
    private static int asked = 0;
    private static int wrong = 0;

    private Check() {
    }

    interface Call {
        long answer();
    }

    static void due(String call, long got, long want) {
        asked++;
        if (got != want) {
            say(call + " answered " + got + ", due is " + want);
        }
    }

    static void due(String call, boolean got, boolean want) {
        due(call, got ? 1 : 0, want ? 1 : 0);
    }

    /** The call must throw just this: 0 NoSuchElementException, 1 IllegalArgumentException, 2 IllegalStateException. */
    static void refused(String call, int kind, Call made) {
        asked++;
        try {
            say(call + " answered " + made.answer() + ", due is a refusal of kind " + kind);
        } catch (RuntimeException e) {
            if (e.getClass() != classOf(kind)) {
                say(call + " threw " + e + ", due is " + classOf(kind));
            }
        }
    }

    static Class<?> classOf(int kind) {
        return kind == 0 ? java.util.NoSuchElementException.class
                : kind == 1 ? IllegalArgumentException.class : IllegalStateException.class;
    }

    static void say(String what) {
        wrong++;
        if (wrong <= 40) {
            System.out.println(what);
        }
    }

    static void end(String test) {
        System.out.println(test + ": " + asked + " answers looked at, " + wrong + " wrong");
        if (wrong > 0 || asked == 0) {
            System.exit(1);
        }
    }
}
