import java.util.List;

/** What the document says of all calls: how many an object is used for, and those that throw. */
public final class CallsTest {
    private static final int MOST_CALLS = 512;

    private CallsTest() {
    }

    public static void main(String[] args) {
        mostCalls();
        throwing();
        firstTold();
        Due.end("CallsTest");
    }

    private static void mostCalls() {
        String words = "An object is used for at most 512 calls after it has been made";
        Due.sentence("What it is", words + " (searches)", () -> {
            GearDesk x = new GearDesk();
            for (int calls = 0; calls < MOST_CALLS; calls += 8) {
                Due.same("want", x.want(Integer.MAX_VALUE, 1000000007, 3, 20, 79), 37820);
                Due.same("search", Due.bit(x.search(1000000)), 1);
                Told.error(x, 7692439L, 115328000807296L);
                Due.same("want", x.want(1, 1, 4, 101, 120), 8855);
                Due.same("search", Due.bit(x.search(8854)), 0);
                Due.same("search", Due.bit(x.search(1)), 1);
                Due.same("tooth", x.tooth(3, 1), 101);
            }
        });
        Due.sentence("What it is", words + " (solve() of a full desk)", () -> {
            GearDesk x = Desks.FULL.make();
            for (int calls = 197; calls < MOST_CALLS - 3; calls++) {
                Due.same("solve()", x.solve(), GearDesk.NONE);
            }
            // Gears 28 and 29 mesh, 29 and the crank 30 share an arbor.
            Due.same("sign", x.speed(28, 0, 0), -1);
            Due.same("above", x.speed(28, 1, 0), 39);
            Due.same("below", x.speed(28, 2, 0), 38);
        });
        Due.sentence("What it is", words + " (solve() of the longest numbers)", CallsTest::longestNumbers);
        Due.sentence("What it is", words + " (hands)", () -> {
            GearDesk x = Desks.LONG_BOTTOMS.make();
            for (int calls = 126; calls < MOST_CALLS - 2; calls += 6) {
                Due.fails("position", Due.TOO_LARGE, () -> x.position(0, 1, Integer.MAX_VALUE));
                Due.fails("meet", Due.TOO_LARGE, () -> Due.bit(x.meet(0, 2)));
                Due.fails("back", Due.TOO_LARGE, () -> Due.bit(x.back()));
                Due.same("meet", Due.bit(x.meet(0, 1)), 1);
                Due.same("result", x.result(0, 7), Integer.MIN_VALUE);
                Due.same("position", x.position(2, -1, 1), 0);
            }
            Due.same("result", x.result(0, 0), 1);
            Due.same("result", x.result(1, 0), 3);
        });
        Due.sentence("What it is", words + " (all but the last refused)", () -> {
            GearDesk x = new GearDesk();
            for (int calls = 0; calls < MOST_CALLS - 1; calls++) {
                Unchanged.DeskCall call = REFUSED.get(calls % REFUSED.size());
                Due.same("a refused call throws", Due.bit(Due.outcome(() -> call.on(x)).endsWith("Exception")), 1);
            }
            Due.same("the first gear", x.gear(4), 0);
        });
    }

    /** Every gear in a planetary set with two before it: no speed of the last ones is short enough. */
    private static void longestNumbers() {
        GearDesk x = new GearDesk();
        for (int g = 0; g < 60; g++) {
            x.gear(1000 - g);
        }
        x.crank(0);
        x.mesh(0, 1);
        for (int g = 2; g < 60; g++) {
            x.planet(g - 1, g, g - 2);
        }
        for (int calls = 120; calls < MOST_CALLS - 3; calls++) {
            Due.fails("solve()", Due.TOO_LARGE, x::solve);
        }
        Due.same("no speeds", x.count(3), 0);
        Due.same("the last relation", x.remove(58), 58);
        Due.fails("the 512th call", Due.TOO_LARGE, x::solve);
    }

    /** Calls that are refused on every desk that has no more than a dozen gears, relations and stages. */
    private static final List<Unchanged.DeskCall> REFUSED = List.of(
            x -> x.want(0, 1, 1, 8, 9), x -> x.want(1, 1, 1, 8, 121), x -> Due.bit(x.search(0)), x -> x.tooth(4, 0),
            x -> x.error(2), x -> x.quotient(1, 0, 0), x -> x.quotient(1, 1, 1), x -> x.gear(3),
            x -> x.mesh(-1, 0), x -> x.mesh(0, 0), x -> x.inner(1, 1), x -> x.arbor(0, 12), x -> x.planet(0, 1, 1),
            x -> x.remove(12), x -> x.remove(-1), x -> x.relation(0, 4), x -> x.crank(12), x -> x.crank(-1),
            x -> x.speed(0, 0, 1), x -> x.speed(0, 1, 8), x -> x.dial(12, 0, 1), x -> x.dial(0, 12, 1),
            x -> x.dial(0, 0, 0), x -> x.position(12, 1, 1), x -> x.position(0, 1, 0), x -> Due.bit(x.meet(0, -1)),
            x -> x.result(2, 0), x -> x.result(0, 8));

    private static void throwing() {
        Due.sentence("Terms", "A call that throws changes nothing (between any others)", () -> {
            for (int part = 0; part < 4; part++) {
                int p = part;
                Unchanged.sameAs(Desks.BUSY, "refused calls between", () -> Desks.busy(x -> refuse(x, p)));
            }
        });
        Due.sentence("Terms", "A call that throws changes nothing (nor does what is too large)", () -> {
            Unchanged.throwing(Due.TOO_LARGE, Desks.LONG_TOPS, "meet(0, 2)", x -> Due.bit(x.meet(0, 2)));
            Unchanged.throwing(Due.TOO_LARGE, Desks.LONG_BOTTOMS, "back()", x -> Due.bit(x.back()));
            Unchanged.throwing(Due.TOO_LARGE, Desks.LONG_BOTTOMS, "position(0, 1, 2)", x -> x.position(0, 1, 2));
        });
    }

    /** A quarter of them, so that there are less than 512 calls in all. */
    private static void refuse(GearDesk x, int part) {
        for (int i = part; i < REFUSED.size(); i += 4) {
            Unchanged.DeskCall call = REFUSED.get(i);
            Due.same("a refused call throws", Due.bit(Due.outcome(() -> call.on(x)).endsWith("Exception")), 1);
        }
    }

    private static void firstTold() {
        Due.sentence("Terms", "Of several exceptions the first one told is thrown", () -> {
            first(Due.ARGUMENT, Desks.NEW, "search(0)", x -> Due.bit(x.search(0)));
            first(Due.STATE, Desks.NEW, "tooth(9, 9)", x -> x.tooth(9, 9));
            first(Due.STATE, Desks.BUSY, "tooth(9, 9)", x -> x.tooth(9, 9));
            first(Due.STATE, Desks.NEW, "error(9)", x -> x.error(9));
            first(Due.STATE, Desks.BUSY, "error(9)", x -> x.error(9));
            first(Due.ARGUMENT, Desks.NEW, "quotient(0, 0, -1)", x -> x.quotient(0, 0, -1));
            first(Due.ARGUMENT, Desks.FULL, "gear(3)", x -> x.gear(3));
            first(Due.INDEX, Desks.FULL, "mesh(60, 60)", x -> x.mesh(60, 60));
            first(Due.ARGUMENT, Desks.FULL, "mesh(0, 0)", x -> x.mesh(0, 0));
            first(Due.INDEX, Desks.FULL, "inner(59, 60)", x -> x.inner(59, 60));
            first(Due.ARGUMENT, Desks.FULL, "inner(0, 0)", x -> x.inner(0, 0));
            first(Due.ARGUMENT, Desks.FULL, "inner(59, 0)", x -> x.inner(59, 0));
            first(Due.INDEX, Desks.FULL, "arbor(-1, -1)", x -> x.arbor(-1, -1));
            first(Due.ARGUMENT, Desks.FULL, "arbor(0, 0)", x -> x.arbor(0, 0));
            first(Due.INDEX, Desks.FULL, "planet(0, 0, 60)", x -> x.planet(0, 0, 60));
            first(Due.ARGUMENT, Desks.FULL, "planet(0, 1, 0)", x -> x.planet(0, 1, 0));
            first(Due.INDEX, Desks.BUSY, "speed(4, 0, 1)", x -> x.speed(4, 0, 1));
            first(Due.INDEX, Desks.BUSY, "speed(4, 3, 0)", x -> x.speed(4, 3, 0));
            first(Due.INDEX, Desks.BUSY, "dial(12, 0, 0)", x -> x.dial(12, 0, 0));
            first(Due.INDEX, Desks.BUSY, "dial(0, 7, 0)", x -> x.dial(0, 7, 0));
            first(Due.INDEX, Desks.BUSY, "position(1, 1, 0)", x -> x.position(1, 1, 0));
            first(Due.ARGUMENT, Desks.BUSY, "position(11, 1, 0)", x -> x.position(11, 1, 0));
            first(Due.INDEX, Desks.LONG_TOPS, "meet(0, 4)", x -> Due.bit(x.meet(0, 4)));
        });
        Due.sentence("promise 15",
                "IllegalStateException .. UnsupportedOperationException (no crank, no speed)", () -> {
            GearDesk x = Desks.withGears(512);
            Desks.chain(x, 0, 512, 5, 29);
            Due.fails("a long chain without a crank", Due.STATE, x::solve);
            x.crank(0);
            Due.fails("with one", Due.TOO_LARGE, x::solve);
        });
    }

    private static void first(Class<? extends RuntimeException> due, Desks desks, String what,
            Unchanged.DeskCall call) {
        GearDesk desk = desks.make();
        Due.fails(desks + ": " + what, due, () -> call.on(desk));
    }
}
