import java.math.BigInteger;

/** The edges of the promises 17 to 23: each sentence that names one, with a test of its own. */
public final class DialEdgesTest {
    private static final int MAX = Integer.MAX_VALUE;
    private static final int MIN = Integer.MIN_VALUE;
    private static final int NONE = GearDesk.NONE;
    private static final BigInteger TWO_255 = BigInteger.TWO.pow(255);
    private static final BigInteger FIVE_28 = BigInteger.valueOf(5).pow(28);
    private static final BigInteger FIVE_29 = BigInteger.valueOf(5).pow(29);

    private DialEdgesTest() {
    }

    public static void main(String[] args) {
        dial();
        positionRefused();
        position();
        meet();
        back();
        result();
        clear();
        count();
        Due.end("DialEdgesTest");
    }

    private static void refusedDial(Class<? extends RuntimeException> due, Desks desks, int k, int gear,
            int divisions) {
        Unchanged.throwing(due, desks, "dial(" + k + ", " + gear + ", " + divisions + ")",
                x -> x.dial(k, gear, divisions));
    }

    private static void dial() {
        Due.sentence("promise 17", "the gear that it had before, or NONE", () -> {
            GearDesk x = Desks.withGears(20, 40);
            for (int k = 0; k < 12; k++) {
                Due.same("none before", x.dial(k, 0, 1), NONE);
                Due.same("0 before", x.dial(k, 1, 1), 0);
                Due.same("1 before", x.dial(k, 1, 2), 1);
                Due.same("dials", x.count(2), k + 1);
            }
        });
        Due.sentence("promise 17", "IndexOutOfBoundsException, when there is no such dial", () -> {
            for (int wrong : new int[] {-1, 12, MIN, MAX}) {
                refusedDial(Due.INDEX, Desks.NEW, wrong, 0, 1);
                refusedDial(Due.INDEX, Desks.BUSY, wrong, 0, 1);
                refusedDial(Due.INDEX, Desks.FULL, wrong, 0, 1);
                // It is told before wrong divisions.
                refusedDial(Due.INDEX, Desks.BUSY, wrong, 0, 0);
            }
            GearDesk x = Desks.withGears(20);
            Due.same("dial(0, 0, 1)", x.dial(0, 0, 1), NONE);
            Due.same("dial(11, 0, 1)", x.dial(11, 0, 1), NONE);
        });
        Due.sentence("promise 17", "IndexOutOfBoundsException, when there is no such .. gear", () -> {
            refusedDial(Due.INDEX, Desks.NEW, 0, 0, 1);
            for (int wrong : new int[] {-1, 7, MIN, MAX}) {
                refusedDial(Due.INDEX, Desks.BUSY, 0, wrong, 1);
                refusedDial(Due.INDEX, Desks.BUSY, 1, wrong, 100001);
            }
            refusedDial(Due.INDEX, Desks.FULL, 0, 60, 1);
            Due.same("the last gear", Desks.FULL.make().dial(11, 59, 1), 55);
        });
        Due.sentence("promise 17", "IllegalArgumentException, when divisions are not 1 .. 100000", () -> {
            for (int wrong : new int[] {0, -1, 100001, MIN, MAX}) {
                refusedDial(Due.ARGUMENT, Desks.BUSY, 0, 0, wrong);
                refusedDial(Due.ARGUMENT, Desks.BUSY, 1, 0, wrong);
                refusedDial(Due.ARGUMENT, Desks.FULL, 11, 59, wrong);
            }
            GearDesk x = Desks.withGears(20);
            x.crank(0);
            x.solve();
            x.dial(0, 0, 1);
            x.dial(1, 0, 100000);
            Due.same("1 division", x.position(0, 99999, 100000), 0);
            Due.same("100000 divisions", x.position(1, 99999, 100000), 99999);
        });
        Due.sentence("promise 17",
                "Dial k has a gear and divisions (also a gear without a speed, and one gear twice)", () -> {
            GearDesk x = Desks.withGears(20);
            Due.same("before solve()", x.dial(3, 0, 4), NONE);
            Due.same("one gear twice", x.dial(4, 0, 8), NONE);
            x.crank(0);
            x.solve();
            Due.same("4 divisions", x.position(3, 3, 4), 3);
            Due.same("8 divisions", x.position(4, 3, 4), 6);
            x.dial(3, 0, 12);
            Due.same("12 divisions now", x.position(3, 3, 4), 9);
            Due.same("8 as before", x.position(4, 3, 4), 6);
        });
    }

    private static void refusedPosition(Class<? extends RuntimeException> due, Desks desks, int k, int num, int den) {
        Unchanged.throwing(due, desks, "position(" + k + ", " + num + ", " + den + ")", x -> x.position(k, num, den));
    }

    private static void positionRefused() {
        Due.sentence("promise 18", "IndexOutOfBoundsException, when the dial has no gear", () -> {
            refusedPosition(Due.INDEX, Desks.NEW, 0, 1, 1);
            for (int wrong : new int[] {1, 9, -1, 12, MIN, MAX}) {
                refusedPosition(Due.INDEX, Desks.BUSY, wrong, 1, 1);
                // It is told before a wrong den.
                refusedPosition(Due.INDEX, Desks.BUSY, wrong, 1, 0);
            }
            refusedPosition(Due.INDEX, Desks.FULL, 12, 1, 1);
            GearDesk x = Desks.FULL.make();
            Due.same("the last dial", x.position(11, 0, 1), 0);
            x.clear();
            Due.fails("after clear()", Due.INDEX, () -> x.position(11, 0, 1));
        });
        Due.sentence("promise 18", "IllegalArgumentException, when den is below 1", () -> {
            for (int wrong : new int[] {0, -1, MIN}) {
                refusedPosition(Due.ARGUMENT, Desks.BUSY, 0, 1, wrong);
                // It is told before a gear without a speed.
                refusedPosition(Due.ARGUMENT, Desks.BUSY, 11, 1, wrong);
                refusedPosition(Due.ARGUMENT, Desks.LONG_BOTTOMS, 0, 1, wrong);
            }
            GearDesk x = Desks.BUSY.make();
            Due.same("den 1", x.position(0, 1, 1), 30);
            Due.same("den max", x.position(0, 0, MAX), 0);
        });
        Due.sentence("promise 18", "IllegalStateException, when its gear has no speed", () -> {
            refusedPosition(Due.STATE, Desks.BUSY, 11, 1, 1);
            refusedPosition(Due.STATE, Desks.BUSY, 11, 0, MAX);
            GearDesk x = Desks.withGears(20);
            x.dial(0, 0, 10);
            Due.fails("before solve()", Due.STATE, () -> x.position(0, 1, 1));
            x.crank(0);
            Due.fails("with a crank, before solve()", Due.STATE, () -> x.position(0, 1, 1));
            x.solve();
            Due.same("after solve()", x.position(0, 1, 2), 5);
            x.dial(0, x.gear(20), 10);
            Due.fails("a gear that came since", Due.STATE, () -> x.position(0, 1, 1));
        });
        Due.sentence("promise 18", "UnsupportedOperationException, when the rest is too large", () -> {
            // One division: the rest is what the hand has made, by 2 to the 255th for a whole turn of the crank.
            GearDesk x = Desks.LONG_BOTTOMS.make();
            Due.same("256 bits", x.position(0, -1, 1), 0);
            Told.longResult("256 bits", x, FIVE_29, TWO_255);
            Due.same("256 bits the other way", x.position(0, 1, 1), 0);
            Told.longResult("256 bits the other way", x, TWO_255.subtract(FIVE_29), TWO_255);
            refusedPosition(Due.TOO_LARGE, Desks.LONG_BOTTOMS, 0, -1, 2);
            refusedPosition(Due.TOO_LARGE, Desks.LONG_BOTTOMS, 0, 1, 2);
            refusedPosition(Due.TOO_LARGE, Desks.LONG_BOTTOMS, 0, 1, MAX);
        });
        Due.sentence("promise 18", "the rest (in lowest terms) is too large", () -> {
            GearDesk x = Desks.LONG_BOTTOMS.make();
            x.dial(0, 57, 2);
            Due.same("two divisions, half a turn", x.position(0, -1, 2), 0);
            Told.longResult("two divisions, half a turn", x, FIVE_29, TWO_255);
            Due.fails("two divisions, a quarter", Due.TOO_LARGE, () -> x.position(0, -1, 4));
            Due.same("two quarters", x.position(0, -2, 4), 0);
            x.dial(0, 57, 100000);
            Due.same("100000 divisions, 1/32 of a turn", x.position(0, -1, 32), 0);
            Told.longResult("100000 divisions, 1/32 of a turn", x, FIVE_29.multiply(BigInteger.valueOf(3125)), TWO_255);
            Due.fails("100000 divisions, 1/64 of a turn", Due.TOO_LARGE, () -> x.position(0, -1, 64));
        });
    }

    private static void position() {
        Due.sentence("promise 18", "without the whole ones (a number from 0 on, below 1)", () -> {
            GearDesk x = Desks.withGears(20);
            x.crank(0);
            x.solve();
            x.dial(0, 0, 60);
            int[][] turns = {
                {0, 1, 0, 0, 1}, {1, 1, 0, 0, 1}, {-1, 1, 0, 0, 1}, {MAX, 1, 0, 0, 1}, {MIN, 1, 0, 0, 1},
                {1, 60, 1, 0, 1}, {-1, 60, 59, 0, 1}, {61, 60, 1, 0, 1}, {-61, 60, 59, 0, 1}, {59, 60, 59, 0, 1},
                {1, MAX, 0, 60, MAX}, {-1, MAX, 59, MAX - 60, MAX}, {MAX - 1, MAX, 59, MAX - 60, MAX},
                {MAX, MAX, 0, 0, 1}, {MIN, MAX, 59, MAX - 60, MAX}, {MIN, 7, 42, 6, 7},
            };
            for (int[] t : turns) {
                String what = "position(0, " + t[0] + ", " + t[1] + ")";
                Due.same(what, x.position(0, t[0], t[1]), t[2]);
                Due.same(what + ", rest above", x.result(0, 0), t[3]);
                Due.same(what + ", rest below", x.result(1, 0), t[4]);
            }
        });
        Due.sentence("promise 18", "times its divisions, the whole part; the rest is the result", () -> {
            GearDesk x = Desks.BUSY.make();
            // -1/2 of 1/7 of a turn: 13/14 of 60 divisions, 55 and 5/7.
            Due.same("position(0, 1, 7)", x.position(0, 1, 7), 55);
            Told.result("position(0, 1, 7)", x, 5, 7);
            // 2/3 of 3/2 turns: a whole one.
            Due.same("position(5, 3, 2)", x.position(5, 3, 2), 0);
            Told.result("position(5, 3, 2)", x, 0, 1);
            // 2/3 of 5/8 turns: 5/12 of 12 divisions.
            Due.same("position(5, 5, 8)", x.position(5, 5, 8), 5);
            Told.result("position(5, 5, 8)", x, 0, 1);
            // 2/3 of 1/32 of a turn: 1/48 of 12 divisions, 2/8 in lowest terms.
            Due.same("position(5, 1, 32)", x.position(5, 1, 32), 0);
            Told.result("position(5, 1, 32)", x, 1, 4);
        });
        Due.sentence("Terms", "At 0 turns of the crank all hands are at the start", () -> {
            GearDesk x = Desks.LONG_TOPS.make();
            for (int k = 0; k < 4; k++) {
                Due.same("dial " + k, x.position(k, 0, MAX), 0);
                Told.result("dial " + k, x, 0, 1);
            }
        });
        Due.sentence("Terms",
                "a hand makes as many turns as its gear: speed times turns (one that stands still)", () -> {
            GearDesk x = Desks.LONG_TOPS.make();
            x.dial(1, 58, 100000);
            Due.same("it never moves", x.position(1, MIN, 7), 0);
            Told.result("it never moves", x, 0, 1);
        });
    }

    private static void refusedMeet(Class<? extends RuntimeException> due, Desks desks, int k, int l) {
        Unchanged.throwing(due, desks, "meet(" + k + ", " + l + ")", x -> Due.bit(x.meet(k, l)));
    }

    private static void noMeeting(Desks desks, int k, int l) {
        Unchanged.answering(0, desks, "meet(" + k + ", " + l + ")", x -> Due.bit(x.meet(k, l)));
    }

    private static void meet() {
        Due.sentence("promise 19", "The least turns of the crank above 0 at which the hands .. point alike", () -> {
            GearDesk x = Desks.BUSY.make();
            // -1/2 and 2/3 are 7/6 apart, whichever is told first.
            Due.same("meet(0, 5)", Due.bit(x.meet(0, 5)), 1);
            Told.result("meet(0, 5)", x, 6, 7);
            Due.same("meet(5, 0)", Due.bit(x.meet(5, 0)), 1);
            Told.result("meet(5, 0)", x, 6, 7);
            // -1/2 and -13/14 are 3/7 apart.
            Due.same("meet(10, 0)", Due.bit(x.meet(10, 0)), 1);
            Told.result("meet(10, 0)", x, 7, 3);
        });
        Due.sentence("promise 19", "(not, when their speeds are equal", () -> {
            noMeeting(Desks.BUSY, 0, 0);
            noMeeting(Desks.LONG_TOPS, 0, 0);
            noMeeting(Desks.LONG_TOPS, 1, 1);
            GearDesk x = Desks.withGears(20, 30);
            x.arbor(0, 1);
            x.crank(0);
            x.solve();
            x.dial(0, 0, 10);
            x.dial(1, 1, 20);
            x.position(0, 1, 3 * 10);
            Due.same("two gears of one speed", Due.bit(x.meet(0, 1)), 0);
            Told.result("stays", x, 1, 3);
        });
        Due.sentence("promise 19", "or one has none; the result stays)", () -> {
            noMeeting(Desks.BUSY, 0, 11);
            noMeeting(Desks.BUSY, 11, 0);
            noMeeting(Desks.BUSY, 11, 11);
            GearDesk x = Desks.withGears(20, 30);
            x.dial(0, 0, 10);
            x.dial(1, 1, 20);
            Due.same("before solve()", Due.bit(x.meet(0, 1)), 0);
            Told.result("stays", x, 0, 1);
            x.mesh(0, 1);
            x.crank(0);
            x.solve();
            x.solve();
            x.remove(0);
            x.solve();
            Due.same("the second one had a speed once", Due.bit(x.meet(0, 1)), 0);
            Due.same("told the other way", Due.bit(x.meet(1, 0)), 0);
            Due.same("nor are both back", Due.bit(x.back()), 0);
            Due.fails("nor does it point anywhere", Due.STATE, () -> x.position(1, 1, 1));
            Told.result("stays", x, 0, 1);
        });
        Due.sentence("promise 19", "IndexOutOfBoundsException, when a dial has no gear", () -> {
            refusedMeet(Due.INDEX, Desks.NEW, 0, 0);
            for (int wrong : new int[] {1, 9, -1, 12, MIN, MAX}) {
                refusedMeet(Due.INDEX, Desks.BUSY, wrong, 0);
                refusedMeet(Due.INDEX, Desks.BUSY, 0, wrong);
                refusedMeet(Due.INDEX, Desks.BUSY, wrong, wrong);
                // Also when the other one's gear has no speed.
                refusedMeet(Due.INDEX, Desks.BUSY, 11, wrong);
                refusedMeet(Due.INDEX, Desks.BUSY, wrong, 11);
            }
            refusedMeet(Due.INDEX, Desks.FULL, 11, 12);
            refusedMeet(Due.INDEX, Desks.FULL, 12, 11);
        });
        Due.sentence("promise 19", "UnsupportedOperationException, when these are too large (below)", () -> {
            GearDesk x = Desks.LONG_TOPS.make();
            Due.same("256 bits below", Due.bit(x.meet(0, 1)), 1);
            Told.longResult("256 bits below", x, FIVE_29, TWO_255);
            refusedMeet(Due.TOO_LARGE, Desks.LONG_TOPS, 0, 2);
            refusedMeet(Due.TOO_LARGE, Desks.LONG_TOPS, 2, 0);
        });
        Due.sentence("promise 19", "UnsupportedOperationException, when these are too large (above)", () -> {
            GearDesk x = Desks.LONG_BOTTOMS.make();
            Due.same("256 bits above", Due.bit(x.meet(0, 1)), 1);
            Told.longResult("256 bits above", x, TWO_255, FIVE_29);
            Due.same("256 bits above and below", Due.bit(x.meet(3, 0)), 1);
            Told.longResult("256 bits above and below", x, TWO_255, TWO_255.add(FIVE_29));
            refusedMeet(Due.TOO_LARGE, Desks.LONG_BOTTOMS, 0, 2);
            refusedMeet(Due.TOO_LARGE, Desks.LONG_BOTTOMS, 2, 0);
        });
        Due.sentence("promise 19", "the hands of two dials (with a hand that stands still)", () -> {
            GearDesk x = Desks.LONG_TOPS.make();
            Due.same("meet(1, 3)", Due.bit(x.meet(1, 3)), 1);
            Told.result("meet(1, 3)", x, 1, 1);
        });
    }

    private static void noReturn(Desks desks) {
        Unchanged.answering(0, desks, "back()", x -> Due.bit(x.back()));
    }

    private static void back() {
        Due.sentence("promise 20",
                "The least turns of the crank above 0 at which all dials' hands are at the start", () -> {
            GearDesk x = Desks.BUSY.make();
            x.dial(11, 0, 7);
            // 1/2, 2/3, 13/14 and 1: of the denominators 42, of the numerators 1.
            Due.same("back()", Due.bit(x.back()), 1);
            Told.result("back()", x, 42, 1);
            GearDesk y = Desks.BUSY.make();
            y.dial(0, 2, 1);
            y.dial(10, 2, 1);
            y.dial(11, 2, 1);
            Due.same("2/3 alone", Due.bit(y.back()), 1);
            Told.result("2/3 alone", y, 3, 2);
        });
        Due.sentence("promise 20", "all dials' hands (of 12, each one)", () -> {
            int[] primes = {5, 7, 11, 13, 17, 19, 23, 29, 31, 37, 41, 43};
            for (int without = -1; without < 12; without++) {
                GearDesk x = Desks.withGears(4);
                x.crank(0);
                long due = 1;
                for (int k = 0; k < 12; k++) {
                    int g = x.gear(primes[k]);
                    x.mesh(0, g);
                    x.dial(k, k == without ? 0 : g, 1 + k);
                    due *= k == without ? 1 : primes[k];
                }
                x.solve();
                Due.same("back()", Due.bit(x.back()), 1);
                // All numerators are 4, but for the crank's, which is 1.
                Told.longResult("without " + without, x, BigInteger.valueOf(due),
                        BigInteger.valueOf(without < 0 ? 4 : 1));
            }
        });
        Due.sentence("promise 20", "(not, when no hand moves", () -> {
            noReturn(Desks.NEW);
            GearDesk x = Desks.LONG_TOPS.make();
            for (int k = 0; k < 12; k++) {
                x.dial(k, 58, 1);
            }
            Due.same("all stand still", Due.bit(x.back()), 0);
            Told.result("stays", x, 1, 3);
            x.dial(11, 0, 1);
            Due.same("one moves", Due.bit(x.back()), 1);
            Told.result("one moves", x, 1, 1);
            GearDesk y = Desks.withGears(20);
            y.crank(0);
            y.solve();
            Due.same("no dials", Due.bit(y.back()), 0);
        });
        Due.sentence("promise 20", "or a dial's gear has no speed; the result stays)", () -> {
            noReturn(Desks.BUSY);
            for (int k = 0; k < 12; k += 11) {
                GearDesk x = Desks.LONG_BOTTOMS.make();
                x.clear();
                x.gear(20);
                x.gear(30);
                x.crank(0);
                x.solve();
                x.dial(5, 0, 10);
                x.dial(k, 1, 10);
                Due.same("one has none", Due.bit(x.back()), 0);
                Told.result("stays", x, 1, 3);
            }
        });
        Due.sentence("promise 20", "or a dial's gear has no speed (though the others' turns are too large)", () -> {
            GearDesk x = Desks.LONG_BOTTOMS.make();
            Due.fails("too large", Due.TOO_LARGE, () -> Due.bit(x.back()));
            x.remove(x.count(1) - 1);
            x.solve();
            Due.same("dial 2 has none now", Due.bit(x.back()), 0);
            Told.result("stays", x, 1, 3);
        });
        Due.sentence("promise 20", "UnsupportedOperationException, when these are too large", () -> {
            // 2 to the 255th and 3, below.
            Unchanged.throwing(Due.TOO_LARGE, Desks.LONG_BOTTOMS, "back()", x -> Due.bit(x.back()));
            GearDesk x = Desks.LONG_BOTTOMS.make();
            x.dial(2, 55, 1);
            x.dial(3, 55, 1);
            Due.same("256 bits above", Due.bit(x.back()), 1);
            Told.longResult("256 bits above", x, TWO_255, FIVE_28);
            GearDesk y = Desks.LONG_TOPS.make();
            y.dial(3, 57, 1);
            Due.same("256 bits below", Due.bit(y.back()), 1);
            Told.longResult("256 bits below", y, FIVE_29, TWO_255);
        });
    }

    private static void result() {
        Due.sentence("promise 21",
                "word i (0 .. 7, as for speed()) of the numerator (part 0) or the denominator (1)", () -> {
            GearDesk x = Desks.LONG_BOTTOMS.make();
            x.meet(0, 1);
            Due.same("word 7 of 2 to the 255th", x.result(0, 7), MIN);
            Due.same("word 0 of 2 to the 255th", x.result(0, 0), 0);
            // It has 68 bits: three words.
            Due.same("word 0 of 5 to the 29th", x.result(1, 0), FIVE_29.intValue());
            Due.same("word 2 of 5 to the 29th", x.result(1, 2), FIVE_29.shiftRight(64).intValue());
            Due.same("word 7 of 5 to the 29th", x.result(1, 7), 0);
        });
        Due.sentence("promise 21", "IndexOutOfBoundsException, for another part or word", () -> {
            int[][] wrongs = {
                {-1, 0}, {2, 0}, {MIN, 0}, {MAX, 0}, {0, -1}, {0, 8}, {1, -1}, {1, 8}, {0, MIN}, {1, MAX}, {2, 8},
            };
            for (int[] w : wrongs) {
                for (Desks desks : new Desks[] {Desks.NEW, Desks.BUSY}) {
                    Unchanged.throwing(Due.INDEX, desks, "result(" + w[0] + ", " + w[1] + ")",
                            x -> x.result(w[0], w[1]));
                }
            }
            Unchanged.answering(34, Desks.BUSY, "result(0, 0)", x -> x.result(0, 0));
            Unchanged.answering(63, Desks.BUSY, "result(1, 0)", x -> x.result(1, 0));
            Unchanged.answering(0, Desks.BUSY, "result(1, 7)", x -> x.result(1, 7));
        });
        Due.sentence("Terms", "THE RESULT is a fraction in lowest terms", () -> {
            GearDesk x = Desks.withGears(20, 30, 12);
            x.mesh(0, 1);
            x.mesh(1, 2);
            x.crank(0);
            x.solve();
            x.dial(0, 0, 6);
            x.dial(1, 1, 6);
            x.dial(2, 2, 6);
            x.position(0, 2, 24);
            Told.result("6 by 12", x, 1, 2);
            x.position(0, 4, 24);
            Told.result("no rest", x, 0, 1);
            // 1 and 5/3 are 2/3 apart; -2/3 and 5/3 are 7/3 apart.
            x.meet(0, 2);
            Told.result("meet(0, 2)", x, 3, 2);
            x.meet(1, 2);
            Told.result("meet(1, 2)", x, 3, 7);
            x.back();
            Told.result("back()", x, 3, 1);
        });
        Due.sentence("Terms", "THE RESULT is .. 0 by 1 at first", () -> Told.result("at first", new GearDesk(), 0, 1));
    }

    private static void clear() {
        Due.sentence("promise 22", "how many gears there were", () -> {
            GearDesk x = new GearDesk();
            Due.same("clear() of none", x.clear(), 0);
            x.gear(20);
            Due.same("clear() of one", x.clear(), 1);
            Due.same("clear() again", x.clear(), 0);
            Due.same("clear() of 60", Desks.FULL.make().clear(), 60);
        });
        Due.sentence("promise 22", "No gears, relations, dials", () -> {
            for (Desks desks : Desks.values()) {
                GearDesk x = desks.make();
                x.clear();
                Told.counts("cleared " + desks, x, 0, 0, 0, 0);
                Due.fails("no gear", Due.INDEX, () -> x.crank(0));
                Due.fails("no speed", Due.INDEX, () -> x.speed(0, 0, 0));
                Due.fails("no relation", Due.INDEX, () -> x.relation(0, 0));
                Due.fails("no dial", Due.INDEX, () -> x.position(0, 1, 1));
                Due.same("no hand", Due.bit(x.back()), 0);
            }
        });
        Due.sentence("promise 22", "no crank", () -> {
            GearDesk x = Desks.FULL.make();
            x.clear();
            for (int g = 0; g < 60; g++) {
                Due.same("gear", x.gear(20), g);
            }
            Due.fails("no crank", Due.STATE, x::solve);
            Due.same("none before", x.crank(30), NONE);
        });
        Due.sentence("promise 22", "No gears, relations, dials (nothing of them comes back with new gears)", () -> {
            GearDesk x = Desks.FULL.make();
            x.clear();
            for (int g = 0; g < 60; g++) {
                x.gear(20);
            }
            Told.counts("gears again", x, 60, 0, 0, 0);
            Due.fails("no old speed", Due.STATE, () -> x.speed(30, 0, 0));
            for (int k = 0; k < 12; k++) {
                Due.same("no old dial", x.dial(k, 59, 1), NONE);
            }
            x.crank(0);
            x.solve();
            Told.counts("no old relation", x, 60, 0, 12, 1);
            Due.same("the first relation", x.planet(2, 1, 0), 0);
        });
        Due.sentence("promise 22",
                "No gears, relations, dials, no crank (the task and the result are none of these)", () -> {
            GearDesk x = Desks.BUSY.make();
            x.clear();
            Told.result("the result stays", x, 34, 63);
            Due.same("the choices stay", x.count(4), 13);
            Due.same("the search goes on", Due.bit(x.search(13)), 1);
            GearDesk y = Desks.SEARCHED.make();
            y.clear();
            Told.train(y, 10, 10, 14, 10);
        });
    }

    private static void count() {
        Due.sentence("promise 23", "NONE for another what", () -> {
            for (int what : new int[] {-1, 5, MIN, MAX}) {
                for (Desks desks : new Desks[] {Desks.NEW, Desks.BUSY, Desks.FULL}) {
                    Unchanged.answering(NONE, desks, "count(" + what + ")", x -> x.count(what));
                }
            }
        });
        Due.sentence("promise 23", "Gears (0)", () -> dueCount(0, 0, 7, 60));
        Due.sentence("promise 23", "relations (1)", () -> dueCount(1, 0, 5, 120));
        Due.sentence("promise 23", "dials with a gear (2)", () -> dueCount(2, 0, 4, 12));
        Due.sentence("promise 23", "gears with a speed (3)", () -> {
            dueCount(3, 0, 4, 60);
            GearDesk x = Desks.FULL.make();
            x.remove(118);
            x.remove(59);
            x.remove(0);
            Due.same("before solve()", x.count(3), 60);
            x.solve();
            Due.same("gear 0 is apart now", x.count(3), 59);
        });
        Due.sentence("promise 23", "choices that are left (4)", () -> {
            dueCount(4, 0, 13, 1);
            Due.same("of none", Desks.SEARCHED.make().count(4), 0);
            GearDesk x = new GearDesk();
            x.want(1, 1, 3, 61, 120);
            Due.same("of the most", x.count(4), 37820);
        });
        Due.sentence("constants", "NONE = -1", () -> Due.same("NONE", GearDesk.NONE, -1));
    }

    private static void dueCount(int what, int ofNew, int ofBusy, int ofFull) {
        Unchanged.answering(ofNew, Desks.NEW, "count(" + what + ")", x -> x.count(what));
        Unchanged.answering(ofBusy, Desks.BUSY, "count(" + what + ")", x -> x.count(what));
        Unchanged.answering(ofFull, Desks.FULL, "count(" + what + ")", x -> x.count(what));
    }
}
