import java.math.BigInteger;

/** The edges of the promises 1 to 6 and of trains: each sentence that names one, with a test of its own. */
public final class TrainEdgesTest {
    private static final int MAX = Integer.MAX_VALUE;
    private static final int MIN = Integer.MIN_VALUE;
    /** More choices than any task has. */
    private static final int ALL = 1000000;

    private TrainEdgesTest() {
    }

    public static void main(String[] args) {
        newObject();
        want();
        search();
        tooth();
        error();
        quotient();
        bestTrain();
        Due.end("TrainEdgesTest");
    }

    private static GearDesk searched(int num, int den, int stages, int low, int high) {
        GearDesk x = new GearDesk();
        x.want(num, den, stages, low, high);
        x.search(ALL);
        return x;
    }

    private static void newObject() {
        Due.sentence("promise 1", "No task", () -> {
            Due.same("choices left", new GearDesk().count(4), 0);
            Due.fails("search(1)", Due.STATE, () -> Due.bit(new GearDesk().search(1)));
            Due.fails("tooth(0, 0)", Due.STATE, () -> new GearDesk().tooth(0, 0));
            Due.fails("error(0)", Due.STATE, () -> new GearDesk().error(0));
        });
        Due.sentence("promise 1", "no gears", () -> {
            GearDesk x = new GearDesk();
            Told.counts("new", x, 0, 0, 0, 0);
            Due.fails("crank(0)", Due.INDEX, () -> x.crank(0));
            Due.fails("speed(0, 0, 0)", Due.INDEX, () -> x.speed(0, 0, 0));
            Due.fails("relation(0, 0)", Due.INDEX, () -> x.relation(0, 0));
            Due.fails("solve()", Due.STATE, x::solve);
            Due.same("the first gear", x.gear(10), 0);
        });
        Due.sentence("promise 1", "no dials", () -> {
            GearDesk x = new GearDesk();
            for (int k = 0; k < 12; k++) {
                int dial = k;
                Due.fails("position(" + k + ", 0, 1)", Due.INDEX, () -> x.position(dial, 0, 1));
            }
            x.gear(10);
            for (int k = 0; k < 12; k++) {
                Due.same("dial(" + k + ", 0, 1)", x.dial(k, 0, 1), GearDesk.NONE);
            }
        });
        Due.sentence("promise 1", "A new object (shares nothing with another)", () -> {
            GearDesk busy = Desks.BUSY.make();
            GearDesk x = new GearDesk();
            busy.solve();
            Told.counts("beside another", x, 0, 0, 0, 0);
            Told.result("beside another", x, 0, 1);
            GearDesk y = searched(2, 1, 1, 8, 16);
            GearDesk z = searched(1, 2, 1, 8, 16);
            Told.train(y, 16, 8);
            Told.train(z, 8, 16);
        });
    }

    private static void refusedWant(int num, int den, int stages, int low, int high) {
        String what = "want(" + num + ", " + den + ", " + stages + ", " + low + ", " + high + ")";
        for (Desks desks : new Desks[] {Desks.NEW, Desks.BUSY, Desks.SEARCHED}) {
            Unchanged.throwing(Due.ARGUMENT, desks, what, x -> x.want(num, den, stages, low, high));
        }
    }

    private static void allowedWant(int due, int num, int den, int stages, int low, int high) {
        GearDesk x = new GearDesk();
        Due.same("want(" + num + ", " + den + ", " + stages + ", " + low + ", " + high + ")",
                x.want(num, den, stages, low, high), due);
        Due.same("choices left", x.count(4), due);
    }

    private static void want() {
        Due.sentence("promise 2", "IllegalArgumentException, when num or den is below 1", () -> {
            for (int wrong : new int[] {0, -1, MIN}) {
                refusedWant(wrong, 1, 1, 8, 9);
                refusedWant(1, wrong, 1, 8, 9);
            }
            allowedWant(2, 1, 1, 1, 8, 9);
            allowedWant(2, MAX, 1, 1, 8, 9);
            allowedWant(2, 1, MAX, 1, 8, 9);
        });
        Due.sentence("promise 2", "stages is not 1 .. 4", () -> {
            for (int wrong : new int[] {0, -1, 5, MIN, MAX}) {
                refusedWant(1, 1, wrong, 8, 9);
            }
            allowedWant(2, 1, 1, 1, 8, 9);
            allowedWant(5, 1, 1, 4, 8, 9);
        });
        Due.sentence("promise 2", "the least teeth are below 8", () -> {
            for (int wrong : new int[] {7, 0, -8, MIN}) {
                refusedWant(1, 1, 1, wrong, 9);
            }
            allowedWant(2, 1, 1, 1, 8, 9);
        });
        Due.sentence("promise 2", "the greatest below the least", () -> {
            refusedWant(1, 1, 1, 9, 8);
            refusedWant(1, 1, 4, 120, 119);
            refusedWant(1, 1, 1, 8, MIN);
            allowedWant(1, 1, 1, 1, 9, 9);
            allowedWant(1, 1, 1, 4, 120, 120);
        });
        Due.sentence("promise 2", "or above 120", () -> {
            refusedWant(1, 1, 1, 120, 121);
            refusedWant(1, 1, 1, 121, 121);
            refusedWant(1, 1, 1, 8, MAX);
            refusedWant(1, 1, 1, MAX, MAX);
            allowedWant(1, 1, 1, 1, 120, 120);
            allowedWant(113, 1, 1, 1, 8, 120);
            allowedWant(6441, 1, 1, 2, 8, 120);
        });
        Due.sentence("promise 2", "there are more than 60 numbers of teeth with three stages", () -> {
            refusedWant(1, 1, 3, 8, 68);
            refusedWant(1, 1, 3, 60, 120);
            refusedWant(1, 1, 3, 8, 120);
            allowedWant(37820, 1, 1, 3, 8, 67);
            allowedWant(37820, 1, 1, 3, 61, 120);
        });
        Due.sentence("promise 2", "or 20 with four", () -> {
            refusedWant(1, 1, 4, 8, 28);
            refusedWant(1, 1, 4, 100, 120);
            refusedWant(1, 1, 4, 8, 67);
            allowedWant(8855, 1, 1, 4, 8, 27);
            allowedWant(8855, 1, 1, 4, 101, 120);
        });
        Due.sentence("promise 2", "A task: how many choices it has", TrainEdgesTest::everyTask);
        Due.sentence("promise 2", "A task (takes the place of the one before)", TrainEdgesTest::newTask);
    }

    /** Every number of stages with every least and greatest teeth about the allowed ones. */
    private static void everyTask() {
        GearDesk x = new GearDesk();
        int calls = 0;
        for (int stages = 0; stages <= 5; stages++) {
            for (int low = 6; low <= 122; low++) {
                for (int high = low - 2; high <= 122; high++) {
                    if (calls++ % 512 == 511) {
                        x = new GearDesk();
                    }
                    GearDesk desk = x;
                    int s = stages;
                    int l = low;
                    int h = high;
                    Due.sameOutcome("want(1, 1, " + s + ", " + l + ", " + h + ")",
                            Due.outcome(() -> desk.want(1, 1, s, l, h)), choices(s, l, h));
                }
            }
        }
    }

    private static String choices(int stages, int low, int high) {
        int numbers = high - low + 1;
        int most = stages == 3 ? 60 : stages == 4 ? 20 : 113;
        if (stages < 1 || stages > 4 || low < 8 || high > 120 || numbers < 1 || numbers > most) {
            return Due.ARGUMENT.getSimpleName();
        }
        long top = 1;
        long bottom = 1;
        for (int s = 1; s <= stages; s++) {
            top *= numbers + s - 1;
            bottom *= s;
        }
        return Long.toString(top / bottom);
    }

    private static void newTask() {
        GearDesk x = searched(2, 1, 1, 8, 16);
        Due.same("the same task again", x.want(2, 1, 1, 8, 16), 9);
        Due.same("all its choices are left", x.count(4), 9);
        Due.fails("it has no best train yet", Due.STATE, () -> x.tooth(0, 0));
        x.search(4);
        Due.same("another in the middle of the search", x.want(5, 1, 1, 10, 12), 3);
        Due.same("its choices", x.count(4), 3);
        Due.same("its search", Due.bit(x.search(3)), 1);
        Told.train(x, 12, 10);
        Told.error(x, 19, 5);
        x.want(1, 1, 4, 120, 120);
        x.search(1);
        Told.train(x, 120, 120, 120, 120, 120, 120, 120, 120);
        x.want(1, 3, 2, 8, 30);
        x.search(ALL);
        Told.train(x, 8, 12, 8, 16);
    }

    private static void search() {
        Due.sentence("promise 3", "Goes through so many more choices (1 .. 1000000)", () -> {
            GearDesk x = new GearDesk();
            x.want(1, 1, 3, 8, 67);
            Due.same("search(1)", Due.bit(x.search(1)), 0);
            Due.same("left", x.count(4), 37819);
            Due.same("search(2)", Due.bit(x.search(2)), 0);
            Due.same("left", x.count(4), 37817);
            Due.same("search(37816)", Due.bit(x.search(37816)), 0);
            Due.same("left", x.count(4), 1);
        });
        Due.sentence("promise 3", "or all that are left", () -> {
            for (int fuel : new int[] {21, 22, ALL}) {
                GearDesk x = new GearDesk();
                x.want(7, 5, 2, 10, 15);
                Due.same("search(" + fuel + ") of 21", Due.bit(x.search(fuel)), 1);
                Due.same("left", x.count(4), 0);
            }
            Unchanged.answering(1, Desks.SEARCHED, "search(1) of none", x -> Due.bit(x.search(1)));
            Unchanged.answering(1, Desks.SEARCHED, "search(1000000) of none", x -> Due.bit(x.search(ALL)));
        });
        Due.sentence("promise 3", "whether none is left", () -> {
            GearDesk x = new GearDesk();
            x.want(7, 5, 2, 10, 15);
            for (int left = 20; left >= 0; left--) {
                Due.same("search(1) of " + (left + 1), Due.bit(x.search(1)), left == 0 ? 1 : 0);
                Due.same("left", x.count(4), left);
            }
            GearDesk one = new GearDesk();
            one.want(1, 1, 1, 8, 8);
            Due.same("search(1) of the only one", Due.bit(one.search(1)), 1);
        });
        Due.sentence("promise 3", "IllegalArgumentException, when fuel is none of these", () -> {
            for (int fuel : new int[] {0, -1, ALL + 1, MIN, MAX}) {
                for (Desks desks : new Desks[] {Desks.NEW, Desks.BUSY, Desks.SEARCHED, Desks.FULL}) {
                    Unchanged.throwing(Due.ARGUMENT, desks, "search(" + fuel + ")", x -> Due.bit(x.search(fuel)));
                }
            }
        });
        Due.sentence("promise 3", "IllegalStateException, when there is no task", () -> {
            Unchanged.throwing(Due.STATE, Desks.NEW, "search(1)", x -> Due.bit(x.search(1)));
            Unchanged.throwing(Due.STATE, Desks.NEW, "search(1000000)", x -> Due.bit(x.search(ALL)));
            Unchanged.throwing(Due.STATE, Desks.LONG_TOPS, "search(1)", x -> Due.bit(x.search(1)));
        });
        Due.sentence("promise 3", "Goes through so many more choices (the best train is the same by any steps)",
                TrainEdgesTest::anySteps);
    }

    private static void anySteps() {
        GearDesk whole = searched(355, 113, 3, 12, 31);
        for (int fuel : new int[] {7, 100, 1539, 1540}) {
            GearDesk x = new GearDesk();
            x.want(355, 113, 3, 12, 31);
            for (int calls = 0; calls < 400 && !x.search(fuel); calls++) {
                x.count(calls % 5);
            }
            for (int i = 0; i < 6; i++) {
                Due.same("by " + fuel + ": tooth", x.tooth(i / 2, i % 2), whole.tooth(i / 2, i % 2));
            }
            Told.error(x, whole.error(0), whole.error(1));
        }
    }

    private static void tooth() {
        Due.sentence("promise 4", "a stage (from 0) of the driver (side 0) or the driven wheel (1)", () -> {
            Told.train(searched(3, 2, 1, 10, 30), 15, 10);
            Told.train(searched(235, 19, 2, 8, 120), 40, 8, 47, 19);
        });
        Due.sentence("promise 4", "IllegalStateException, when there is no task", () -> {
            Unchanged.throwing(Due.STATE, Desks.NEW, "tooth(0, 0)", x -> x.tooth(0, 0));
            Unchanged.throwing(Due.STATE, Desks.NEW, "tooth(-1, 2)", x -> x.tooth(-1, 2));
        });
        Due.sentence("promise 4", "or choices are left", () -> {
            Unchanged.throwing(Due.STATE, Desks.BUSY, "tooth(0, 0)", x -> x.tooth(0, 0));
            Unchanged.throwing(Due.STATE, Desks.BUSY, "tooth(2, 0)", x -> x.tooth(2, 0));
            Unchanged.throwing(Due.STATE, Desks.FULL, "tooth(1, 1) with one left", x -> x.tooth(1, 1));
            GearDesk x = Desks.FULL.make();
            x.search(1);
            Due.same("tooth(1, 1) with none left", x.tooth(1, 1), 19);
        });
        Due.sentence("promise 4", "IndexOutOfBoundsException, when there is no such stage or side", () -> {
            for (int stages = 1; stages <= 4; stages++) {
                int s = stages;
                GearDesk x = searched(1, 1, stages, 20, 21);
                Due.same("the last stage", x.tooth(stages - 1, 1), 20);
                Due.fails("a stage more of " + s, Due.INDEX, () -> x.tooth(s, 0));
                Due.fails("a side more", Due.INDEX, () -> x.tooth(s - 1, 2));
            }
            int[][] wrongs = {{-1, 0}, {2, 0}, {0, -1}, {0, 2}, {1, 2}, {2, 1}, {MIN, 0}, {MAX, 0}, {0, MIN}, {0, MAX}};
            for (int[] w : wrongs) {
                Unchanged.throwing(Due.INDEX, Desks.SEARCHED, "tooth(" + w[0] + ", " + w[1] + ")",
                        x -> x.tooth(w[0], w[1]));
            }
        });
    }

    private static void error() {
        Due.sentence("promise 5", "The error of the best train in lowest terms", () -> {
            Told.error(searched(235, 19, 2, 8, 120), 0, 1);
            // 14/10 and 300/200 differ by 1/10.
            Told.error(searched(300, 200, 1, 10, 14), 1, 10);
            Told.error(searched(MAX, MAX, 4, 120, 120), 0, 1);
            longErrors();
        });
        Due.sentence("promise 5", "IllegalStateException, when there is no task", () -> {
            Unchanged.throwing(Due.STATE, Desks.NEW, "error(0)", x -> x.error(0));
            Unchanged.throwing(Due.STATE, Desks.NEW, "error(2)", x -> x.error(2));
        });
        Due.sentence("promise 5", "or choices are left", () -> {
            Unchanged.throwing(Due.STATE, Desks.BUSY, "error(0)", x -> x.error(0));
            Unchanged.throwing(Due.STATE, Desks.BUSY, "error(-1)", x -> x.error(-1));
            Unchanged.throwing(Due.STATE, Desks.FULL, "error(1) with one left", x -> x.error(1));
        });
        Due.sentence("promise 5", "IndexOutOfBoundsException, for another part", () -> {
            for (int part : new int[] {-1, 2, MIN, MAX}) {
                Unchanged.throwing(Due.INDEX, Desks.SEARCHED, "error(" + part + ")", x -> x.error(part));
            }
            Unchanged.answering(0, Desks.SEARCHED, "error(0)", x -> x.error(0));
            Unchanged.answering(1, Desks.SEARCHED, "error(1)", x -> x.error(1));
        });
    }

    /** Wanted ratios far above and below all trains have the longest errors, which only a long can hold. */
    private static void longErrors() {
        BigInteger low = BigInteger.valueOf(101).pow(4);
        BigInteger high = BigInteger.valueOf(120).pow(4);
        BigInteger max = BigInteger.valueOf(MAX);
        GearDesk above = searched(MAX, 1, 4, 101, 120);
        Told.train(above, 120, 101, 120, 101, 120, 101, 120, 101);
        Told.error(above, max.multiply(low).subtract(high).longValueExact(), low.longValueExact());
        GearDesk below = searched(1, MAX, 4, 101, 120);
        Told.train(below, 101, 120, 101, 120, 101, 120, 101, 120);
        Told.error(below, max.multiply(low).subtract(high).longValueExact(), max.multiply(high).longValueExact());
        GearDesk one = searched(MAX, 1, 4, 120, 120);
        Told.error(one, MAX - 1, 1);
        GearDesk near = searched(MAX, MAX - 1, 4, 120, 120);
        Told.error(near, 1, MAX - 1);
    }

    private static void refusedQuotient(Class<? extends RuntimeException> due, int num, int den, int i) {
        Unchanged.throwing(due, Desks.BUSY, "quotient(" + num + ", " + den + ", " + i + ")",
                x -> x.quotient(num, den, i));
    }

    private static void allQuotients(int num, int den, int... due) {
        GearDesk x = new GearDesk();
        String what = "quotient(" + num + ", " + den + ", ";
        for (int i = 0; i < due.length; i++) {
            Due.same(what + i + ")", x.quotient(num, den, i), due[i]);
        }
        for (int i : new int[] {due.length, due.length + 1, MAX, -1, MIN}) {
            Due.fails(what + i + ")", Due.INDEX, () -> x.quotient(num, den, i));
        }
    }

    private static void quotient() {
        Due.sentence("promise 6",
                "the whole part, then that of the rest turned over, .. until there is no rest", () -> {
            allQuotients(1, 1, 1);
            allQuotients(355, 113, 3, 7, 16);
            allQuotients(113, 355, 0, 3, 7, 16);
            allQuotients(710, 226, 3, 7, 16);
            allQuotients(MAX, 1, MAX);
            allQuotients(1, MAX, 0, MAX);
            allQuotients(MAX, MAX, 1);
            allQuotients(MAX - 1, MAX, 0, 1, MAX - 1);
            allQuotients(MAX, MAX - 1, 1, MAX - 1);
            allQuotients(MAX, 2, 1073741823, 2);
        });
        Due.sentence("promise 6", "and so on (the longest one)", () -> {
            // Two Fibonacci numbers that follow one another: all ones, and a two at the end.
            int[] ones = new int[44];
            java.util.Arrays.fill(ones, 1);
            ones[43] = 2;
            allQuotients(1836311903, 1134903170, ones);
        });
        Due.sentence("promise 6", "IllegalArgumentException, when num or den is below 1", () -> {
            for (int wrong : new int[] {0, -1, MIN}) {
                refusedQuotient(Due.ARGUMENT, wrong, 1, 0);
                refusedQuotient(Due.ARGUMENT, 1, wrong, 0);
                refusedQuotient(Due.ARGUMENT, wrong, 1, -1);
                refusedQuotient(Due.ARGUMENT, 1, wrong, MAX);
            }
        });
        Due.sentence("promise 6", "IndexOutOfBoundsException, when there is no such quotient", () -> {
            for (int wrong : new int[] {-1, 3, 4, MIN, MAX}) {
                refusedQuotient(Due.INDEX, 355, 113, wrong);
            }
            refusedQuotient(Due.INDEX, 1, 1, 1);
            Unchanged.answering(16, Desks.BUSY, "quotient(355, 113, 2)", x -> x.quotient(355, 113, 2));
        });
    }

    private static void bestTrain() {
        Due.sentence("Terms", "its ERROR is how far that is from the wanted one, without a sign", () -> {
            // The only train has 1 by 1.
            Told.error(searched(11, 10, 1, 120, 120), 1, 10);
            Told.error(searched(9, 10, 1, 120, 120), 1, 10);
        });
        Due.sentence("Terms", "THE BEST train has the least error", () -> {
            Told.train(searched(3, 2, 1, 10, 14), 14, 10);
            Told.train(searched(120, 119, 1, 8, 120), 120, 119);
            Told.train(searched(8, 120, 1, 8, 120), 8, 120);
            // A hair above and below the middle of 8/8 and 9/8.
            GearDesk above = searched(1700000001, 1600000000, 1, 8, 9);
            Told.train(above, 9, 8);
            Told.error(above, 99999999, 1600000000);
            GearDesk below = searched(1699999999, 1600000000, 1, 8, 9);
            Told.train(below, 8, 8);
            Told.error(below, 99999999, 1600000000);
        });
        Due.sentence("Terms", "of several with that the fewest teeth in all", () -> {
            Told.train(searched(1, 1, 3, 8, 67), 8, 8, 8, 8, 8, 8);
            Told.train(searched(1, 2, 1, 8, 120), 8, 16);
            // In the middle of 8/8 and 9/8, and of 8/9 and 8/8.
            Told.train(searched(17, 16, 1, 8, 9), 8, 8);
            Told.train(searched(17, 18, 1, 8, 9), 8, 8);
            // 8, 8, 15, 11 and, from the other side of the wanted one, 13, 13, 21, 20 are lower lists with more teeth.
            Told.train(searched(15, 11, 2, 8, 15), 10, 8, 12, 11);
            Told.train(searched(13, 12, 2, 13, 21), 13, 15, 20, 16);
            Told.train(searched(2785, 2652, 2, 13, 21), 14, 15, 18, 16);
            Told.train(searched(2591, 2704, 2, 9, 16), 12, 10, 12, 15);
        });
        Due.sentence("Terms", "of these the least list", TrainEdgesTest::leastLists);
    }

    private static void leastLists() {
        // Exact trains; the next list with as many teeth differs first in a driver, then in a driven wheel.
        Told.train(searched(21, 44, 2, 20, 40), 20, 22, 21, 40);
        Told.train(searched(5, 11, 2, 20, 40), 20, 22, 20, 40);
        Told.train(searched(77, 36, 2, 40, 80), 49, 42, 77, 42);
        Told.train(searched(231, 32, 3, 8, 26), 11, 8, 16, 8, 21, 8);
        Told.train(searched(32, 231, 3, 8, 26), 8, 11, 8, 16, 8, 21);
        Told.train(searched(10, 21, 3, 9, 33), 9, 9, 9, 9, 10, 21);
        Told.train(searched(3, 7, 3, 9, 33), 9, 9, 9, 9, 9, 21);
        // As far off from either side; the least list is that of the higher ratio, then that of the lower one.
        Told.train(searched(322, 405, 2, 8, 10), 8, 8, 8, 10);
        Told.train(searched(161, 128, 2, 8, 10), 8, 8, 10, 8);
        // The same where the other train would come first if all drivers were looked at before the driven wheels.
        Told.train(searched(19601, 59290, 3, 8, 16), 8, 10, 9, 14, 9, 14);
        Told.train(searched(8191, 14112, 3, 8, 16), 8, 8, 10, 14, 13, 16);
        Told.train(searched(439135, 996072, 4, 10, 15), 10, 10, 10, 14, 11, 14, 11, 14);
        Told.train(searched(511879, 947700, 4, 8, 13), 8, 8, 8, 10, 9, 10, 9, 12);
        // And where it would, if the driven wheel of a stage came before its driver.
        Told.train(searched(4159, 8400, 2, 8, 20), 8, 14, 13, 15);
        Told.train(searched(8399, 14820, 2, 8, 20), 8, 15, 17, 16);
        Told.train(searched(94817, 96096, 3, 8, 16), 8, 8, 11, 12, 14, 13);
        Told.train(searched(742543, 1186380, 4, 8, 13), 8, 10, 8, 12, 13, 12, 13, 12);
    }
}
