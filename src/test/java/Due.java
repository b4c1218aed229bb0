/** What a test counts: answers that are not the ones that are due. */
final class Due {
    static final Class<IllegalArgumentException> ARGUMENT = IllegalArgumentException.class;
    static final Class<IllegalStateException> STATE = IllegalStateException.class;
    static final Class<IndexOutOfBoundsException> INDEX = IndexOutOfBoundsException.class;
    static final Class<UnsupportedOperationException> TOO_LARGE = UnsupportedOperationException.class;

    private static final int LONGEST_TEST = 300_000;

    /** A call of the desk, a boolean answered as 1 or 0. */
    interface Call {
        long run();
    }

    private static int looked = 0;
    private static int wrong = 0;

    static {
        Thread watch = new Thread(Due::endLate);
        watch.setDaemon(true);
        watch.start();
    }

    private Due() {
    }

    /** A call that does not end is a fault to be told, not a test that hangs. */
    private static void endLate() {
        try {
            Thread.sleep(LONGEST_TEST);
        } catch (InterruptedException e) {
            return;
        }
        System.out.println("a call does not end");
        Runtime.getRuntime().halt(1);
    }

    /** A sentence of the document with the test that fails if it does not hold. */
    static void sentence(String where, String words, Runnable test) {
        int lookedBefore = looked;
        int wrongBefore = wrong;
        try {
            test.run();
        } catch (RuntimeException e) {
            wrong++;
            System.out.println("a call threw " + e + " at " + e.getStackTrace()[0]);
        }
        if (wrong > wrongBefore || looked == lookedBefore) {
            wrong = Math.max(wrong, wrongBefore + 1);
            System.out.println(where + " does not hold: " + words);
        }
    }

    static void same(String what, long got, long due) {
        looked++;
        if (got != due) {
            wrong++;
            System.out.println(what + " answered " + got + ", due is " + due);
        }
    }

    static void fails(String what, Class<? extends RuntimeException> due, Call call) {
        sameOutcome(what, outcome(call), due.getSimpleName());
    }

    static void sameOutcome(String what, String got, String due) {
        looked++;
        if (!got.equals(due)) {
            wrong++;
            System.out.println(what + " answered " + got + ", due is " + due);
        }
    }

    /** The answer, or the name of what was thrown. */
    static String outcome(Call call) {
        try {
            return Long.toString(call.run());
        } catch (RuntimeException e) {
            return e.getClass().getSimpleName();
        }
    }

    static long bit(boolean answer) {
        return answer ? 1 : 0;
    }

    static int wrongSoFar() {
        return wrong;
    }

    static void end(String test) {
        System.out.println(test + ": " + looked + " answers looked at, " + wrong + " not as due");
        if (wrong != 0 || looked == 0) {
            System.exit(1);
        }
    }
}
