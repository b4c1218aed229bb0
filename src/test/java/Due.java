/** What a test counts: answers that are not the ones that are due. */
final class Due {
    /** A call of the desk, a boolean answered as 1 or 0. */
    interface Call {
        long run();
    }

    private static int looked = 0;
    private static int wrong = 0;

    private Due() {
    }

    static void same(String what, long got, long due) {
        looked++;
        if (got != due) {
            wrong++;
            System.out.println(what + " answered " + got + ", due is " + due);
        }
    }

    static void fails(String what, Class<? extends RuntimeException> due, Call call) {
        same(what + " throws " + due.getSimpleName(), due.getSimpleName().equals(outcome(call)) ? 1 : 0, 1);
    }

    static void sameOutcome(String what, String got, String due) {
        looked++;
        if (!got.equals(due)) {
            wrong++;
            System.out.println(what + " answered " + got + ", due is " + due);
        }
    }

    /** The answer, or the name of what was thrown. */
    static String outcome(Call call) {
        try {
            return Long.toString(call.run());
        } catch (RuntimeException e) {
            return e.getClass().getSimpleName();
        }
    }

    static long bit(boolean answer) {
        return answer ? 1 : 0;
    }

    static int wrongSoFar() {
        return wrong;
    }

    static void end(String test) {
        System.out.println(test + ": " + looked + " answers looked at, " + wrong + " not as due");
        if (wrong != 0 || looked == 0) {
            System.exit(1);
        }
    }
}
