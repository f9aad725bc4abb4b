/** Counts what tests look at, and prints what is not as due. */
final class Expect {
    /** A call that may throw. */
    interface Call {
        long run();
    }

    private static int looks = 0;
    private static int wrong = 0;

    private Expect() {
    }

    static void same(String what, long due, long got) {
        same(what, Long.toString(due), Long.toString(got));
    }

    static void same(String what, String due, String got) {
        looks++;
        if (!due.equals(got)) {
            wrong++;
            System.out.println(what + ": due is " + due + ", it answered " + got);
        }
    }

    static void yes(String what, boolean holds) {
        same(what, "true", Boolean.toString(holds));
    }

    /** What a call answers, or the name of what it throws. */
    static String answer(Call call) {
        try {
            return Long.toString(call.run());
        } catch (RuntimeException e) {
            return e.getClass().getSimpleName();
        }
    }

    static void argument(String what, Call call) {
        same(what, "IllegalArgumentException", answer(call));
    }

    static void state(String what, Call call) {
        same(what, "IllegalStateException", answer(call));
    }

    /** Ends a test class: exit code 1 if anything was wrong. */
    static void end() {
        System.out.println(looks + " looks, " + wrong + " wrong");
        if (wrong != 0 || looks == 0) {
            System.exit(1);
        }
    }
}
