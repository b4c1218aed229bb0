import java.math.BigInteger;

/** The edges of the promises 7 to 16: each sentence that names one, with a test of its own. */
public final class GearEdgesTest {
    private static final int MAX = Integer.MAX_VALUE;
    private static final int MIN = Integer.MIN_VALUE;
    private static final int NONE = GearDesk.NONE;
    private static final int PLANET = 3;
    private static final BigInteger TWO_255 = BigInteger.TWO.pow(255);
    private static final BigInteger FIVE_29 = BigInteger.valueOf(5).pow(29);

    private GearEdgesTest() {
    }

    public static void main(String[] args) {
        gear();
        fourRelations();
        inner();
        whatRelationsAsk();
        remove();
        relation();
        crank();
        solve();
        clashes();
        tooLarge();
        speed();
        Due.end("GearEdgesTest");
    }

    /** A relation of one of the four kinds; only PLANET looks at the third gear. */
    private static int relate(GearDesk x, int kind, int a, int b, int c) {
        switch (kind) {
            case 0:
                return x.mesh(a, b);
            case 1:
                return x.inner(a, b);
            case 2:
                return x.arbor(a, b);
            default:
                return x.planet(a, b, c);
        }
    }

    private static String told(int kind, int a, int b, int c) {
        String name = new String[] {"mesh", "inner", "arbor", "planet"}[kind];
        return name + "(" + a + ", " + b + (kind == PLANET ? ", " + c : "") + ")";
    }

    private static void refused(Class<? extends RuntimeException> due, Desks desks, int kind, int a, int b, int c) {
        Unchanged.throwing(due, desks, told(kind, a, b, c), x -> relate(x, kind, a, b, c));
    }

    private static void gear() {
        Due.sentence("Terms", "GEARS are numbered from 0, with 4 to 1000 teeth", () -> {
            GearDesk x = new GearDesk();
            Due.same("gear(4)", x.gear(4), 0);
            Due.same("gear(1000)", x.gear(1000), 1);
            x.crank(0);
            x.inner(0, 1);
            x.solve();
            Told.speed("4 teeth in 1000", x, 1, 1, 250);
        });
        Due.sentence("promise 7", "IllegalArgumentException, when teeth are none of these", () -> {
            for (int teeth : new int[] {3, 0, -1, -4, 1001, MIN, MAX}) {
                for (Desks desks : new Desks[] {Desks.NEW, Desks.BUSY, Desks.FULL}) {
                    Unchanged.throwing(Due.ARGUMENT, desks, "gear(" + teeth + ")", x -> x.gear(teeth));
                }
            }
        });
        Due.sentence("promise 7", "IllegalStateException, when there are 60", () -> {
            GearDesk x = new GearDesk();
            for (int g = 0; g < 60; g++) {
                Due.same("gear " + g, x.gear(4 + g), g);
            }
            Due.same("gears", x.count(0), 60);
            for (int teeth : new int[] {4, 20, 1000}) {
                Due.fails("one more", Due.STATE, () -> x.gear(teeth));
                Unchanged.throwing(Due.STATE, Desks.FULL, "gear(" + teeth + ")", y -> y.gear(teeth));
            }
            x.clear();
            Due.same("after clear()", x.gear(20), 0);
        });
    }

    private static void fourRelations() {
        Due.sentence("promise 8", "For all four: IndexOutOfBoundsException, when there is no such gear", () -> {
            for (int kind = 0; kind < 4; kind++) {
                refused(Due.INDEX, Desks.NEW, kind, 0, 1, 2);
                refused(Due.INDEX, Desks.NEW, kind, 0, 0, 0);
                for (int wrong : new int[] {-1, 7, MIN, MAX}) {
                    refused(Due.INDEX, Desks.BUSY, kind, wrong, 0, 1);
                    refused(Due.INDEX, Desks.BUSY, kind, 0, wrong, 1);
                    // No such gear comes before two that are one.
                    refused(Due.INDEX, Desks.BUSY, kind, wrong, wrong, 1);
                }
                // And before there are 120.
                refused(Due.INDEX, Desks.FULL, kind, 60, 0, 1);
                refused(Due.INDEX, Desks.FULL, kind, 0, 60, 1);
                refused(Due.INDEX, Desks.FULL, kind, -1, -1, -1);
            }
            for (int wrong : new int[] {-1, 7, MIN, MAX}) {
                refused(Due.INDEX, Desks.BUSY, PLANET, 0, 1, wrong);
                refused(Due.INDEX, Desks.BUSY, PLANET, 0, 0, wrong);
                refused(Due.INDEX, Desks.FULL, PLANET, 0, 1, wrong == 7 ? 60 : wrong);
            }
        });
        Due.sentence("promise 8", "For all four: the last gear there is", () -> {
            for (int kind = 0; kind < 4; kind++) {
                GearDesk x = Desks.withGears(10, 20, 30);
                Due.same(told(kind, 0, 2, 1), relate(x, kind, 0, 2, 1), 0);
                Told.relation(told(kind, 0, 2, 1), x, 0, kind, 0, 2, kind == PLANET ? 1 : NONE);
            }
            GearDesk x = Desks.withGears(10, 20, 30);
            Due.same("planet(0, 1, 2)", x.planet(0, 1, 2), 0);
            Due.same("planet(2, 1, 0)", x.planet(2, 1, 0), 1);
        });
        Due.sentence("promise 8", "IllegalArgumentException, when two of the gears are one", () -> {
            for (int kind = 0; kind < 3; kind++) {
                refused(Due.ARGUMENT, Desks.BUSY, kind, 0, 0, 0);
                refused(Due.ARGUMENT, Desks.BUSY, kind, 6, 6, 0);
                refused(Due.ARGUMENT, Desks.FULL, kind, 59, 59, 0);
            }
            for (Desks desks : new Desks[] {Desks.BUSY, Desks.FULL}) {
                refused(Due.ARGUMENT, desks, PLANET, 0, 0, 1);
                refused(Due.ARGUMENT, desks, PLANET, 0, 1, 0);
                refused(Due.ARGUMENT, desks, PLANET, 1, 0, 0);
                refused(Due.ARGUMENT, desks, PLANET, 2, 2, 2);
            }
        });
        Due.sentence("promise 8", "IllegalStateException, when there are 120", () -> {
            for (int kind = 0; kind < 4; kind++) {
                refused(Due.STATE, Desks.FULL, kind, 0, 1, 2);
                refused(Due.STATE, Desks.FULL, kind, 58, 59, 0);
                GearDesk x = Desks.withGears(10, 20, 30);
                for (int r = 0; r < 120; r++) {
                    Due.same("relation " + r, relate(x, kind, 0, 1, 2), r);
                }
                Due.same("relations", x.count(1), 120);
                int k = kind;
                Due.fails("one more", Due.STATE, () -> relate(x, k, 0, 1, 2));
                Due.same("one goes", x.remove(60), 119);
                Due.same("one comes", relate(x, kind, 0, 2, 1), 119);
            }
        });
    }

    private static void inner() {
        Due.sentence("promise 9", "IllegalArgumentException also when b has not more teeth than a", () -> {
            GearDesk x = Desks.withGears(4, 5, 5, 1000, 999);
            Due.same("one tooth more", x.inner(0, 1), 0);
            Due.fails("as many", Due.ARGUMENT, () -> x.inner(1, 2));
            Due.fails("as many", Due.ARGUMENT, () -> x.inner(2, 1));
            Due.fails("one less", Due.ARGUMENT, () -> x.inner(1, 0));
            Due.fails("one less", Due.ARGUMENT, () -> x.inner(3, 4));
            Due.same("one more", x.inner(4, 3), 1);
            Due.same("relations", x.count(1), 2);
            refused(Due.ARGUMENT, Desks.BUSY, 1, 1, 0, 0);
            // It is told before there are 120.
            refused(Due.ARGUMENT, Desks.FULL, 1, 1, 0, 0);
        });
        Due.sentence("promise 8", "For all four: (the others look at no teeth)", () -> {
            GearDesk x = Desks.withGears(40, 20, 20);
            Due.same("mesh(0, 1)", x.mesh(0, 1), 0);
            Due.same("mesh(1, 2)", x.mesh(1, 2), 1);
            Due.same("arbor(1, 2)", x.arbor(1, 2), 2);
            Due.same("planet(0, 1, 2)", x.planet(0, 1, 2), 3);
            Due.same("planet(1, 2, 0)", x.planet(1, 2, 0), 4);
        });
    }

    private static void whatRelationsAsk() {
        Due.sentence("Terms", "MESH of a and b: .. is the opposite of that of b times its teeth", () -> {
            GearDesk x = Desks.withGears(30, 45);
            x.mesh(1, 0);
            x.crank(0);
            x.solve();
            Told.speed("mesh", x, 1, -2, 3);
        });
        Due.sentence("Terms", "INNER (b has more teeth): these are equal", () -> {
            GearDesk x = Desks.withGears(30, 45);
            x.inner(0, 1);
            x.crank(0);
            x.solve();
            Told.speed("inner", x, 1, 2, 3);
            x.crank(1);
            x.solve();
            Told.speed("inner", x, 0, 3, 2);
        });
        Due.sentence("Terms", "ARBOR: their speeds are equal", () -> {
            GearDesk x = Desks.withGears(30, 45);
            x.arbor(0, 1);
            x.crank(0);
            x.solve();
            Told.speed("arbor", x, 1, 1, 1);
        });
        Due.sentence("Terms", "PLANET of sun, ring and carrier: .. are 0 together, by their speeds", () -> {
            // With the ring held: 30 (1 - c) = 90 c, c = 1/4; with the carrier held: 30 = -90 r.
            Told.speed("the carrier", planetWith(1), 2, 1, 4);
            Told.speed("the ring", planetWith(2), 1, -1, 3);
            GearDesk x = planetWith(0);
            Due.fails("with none held the ring is free", Due.STATE, () -> x.speed(1, 0, 0));
        });
    }

    /** Sun 0 (30 teeth, the crank), ring 1 (90) and carrier 2; ring or carrier is held, or none (0). */
    private static GearDesk planetWith(int held) {
        GearDesk x = Desks.withGears(30, 90, 10, 20, 40);
        x.crank(0);
        x.planet(0, 1, 2);
        if (held != 0) {
            x.mesh(3, 4);
            x.inner(3, 4);
            x.arbor(3, held);
        }
        x.solve();
        return x;
    }

    private static GearDesk fourKinds() {
        GearDesk x = Desks.withGears(20, 40, 50, 60);
        x.mesh(0, 1);
        x.inner(1, 2);
        x.arbor(2, 3);
        x.planet(3, 1, 0);
        return x;
    }

    private static void remove() {
        Due.sentence("promise 12", "A relation goes: how many there are then", () -> {
            GearDesk x = fourKinds();
            Due.same("remove(3)", x.remove(3), 3);
            Due.same("remove(0)", x.remove(0), 2);
            Due.same("remove(1)", x.remove(1), 1);
            Due.same("remove(0)", x.remove(0), 0);
            Due.same("relations", x.count(1), 0);
            Due.fails("remove(0) of none", Due.INDEX, () -> x.remove(0));
        });
        Due.sentence("promise 12", "IndexOutOfBoundsException, when there is no such relation", () -> {
            Unchanged.throwing(Due.INDEX, Desks.NEW, "remove(0)", x -> x.remove(0));
            for (int wrong : new int[] {-1, 5, MIN, MAX}) {
                Unchanged.throwing(Due.INDEX, Desks.BUSY, "remove(" + wrong + ")", x -> x.remove(wrong));
            }
            Unchanged.throwing(Due.INDEX, Desks.FULL, "remove(120)", x -> x.remove(120));
            Due.same("remove(119)", Desks.FULL.make().remove(119), 119);
        });
        Due.sentence("Terms", "when one goes, those behind it move up", () -> {
            int[][] parts = {{0, 0, 1, NONE}, {1, 1, 2, NONE}, {2, 2, 3, NONE}, {3, 3, 1, 0}};
            for (int gone = 0; gone < 4; gone++) {
                GearDesk x = fourKinds();
                x.remove(gone);
                for (int r = 0; r < 3; r++) {
                    Told.relation("remove(" + gone + "), then " + r, x, r, parts[r < gone ? r : r + 1]);
                }
                Due.fails("the last place is empty", Due.INDEX, () -> x.relation(3, 0));
                Due.same("the next one has its number", x.arbor(0, 3), 3);
                Told.relation("the next one", x, 3, 2, 0, 3, NONE);
            }
        });
        Due.sentence("Terms", "when one goes, those behind it move up (of 120)", () -> {
            GearDesk x = Desks.withGears(20, 40, 50);
            x.planet(2, 1, 0);
            for (int r = 1; r < 119; r++) {
                x.mesh(0, 1);
            }
            x.inner(1, 2);
            x.remove(0);
            Told.relation("the first", x, 0, 0, 0, 1, NONE);
            Told.relation("the last", x, 118, 1, 1, 2, NONE);
            Due.fails("none behind it", Due.INDEX, () -> x.relation(119, 0));
        });
        Due.sentence("Terms", "RELATIONS stand in the order in which they came", () -> {
            GearDesk x = Desks.withGears(20, 40, 60, 30, 50);
            x.crank(2);
            x.arbor(3, 4);
            x.mesh(1, 2);
            x.inner(1, 2);
            x.mesh(3, 4);
            x.arbor(3, 2);
            x.arbor(0, 4);
            Due.same("inner clashes with mesh", x.solve(), 1);
            x.remove(1);
            Due.same("the arbor clashes with two that can't turn", x.solve(), 2);
            x.remove(2);
            Due.same("no clash", x.solve(), NONE);
            x.mesh(4, 0);
            x.mesh(4, 3);
            Due.same("of two that clash the one that came first", x.solve(), 0);
            x.remove(4);
            Due.same("the other one", x.solve(), 3);
            x.mesh(4, 0);
            Due.same("it came first now", x.solve(), 3);
        });
        Due.sentence("Terms",
                "SPEEDS are those that the latest solve() found (a relation that goes leaves them)", () -> {
            GearDesk x = Desks.withGears(20, 40);
            x.crank(0);
            x.mesh(0, 1);
            x.solve();
            x.remove(0);
            Told.speed("still there", x, 1, -1, 2);
            x.solve();
            Due.fails("gone", Due.STATE, () -> x.speed(1, 0, 0));
        });
    }

    private static void relation() {
        Due.sentence("promise 13", "its kind (what 0: MESH 0, INNER 1, ARBOR 2, PLANET 3)", () -> {
            for (int kind = 0; kind < 4; kind++) {
                Due.same("kind", fourKinds().relation(kind, 0), kind);
            }
        });
        Due.sentence("promise 13", "its gears in the order in which they were told", () -> {
            GearDesk x = Desks.withGears(20, 40, 50, 60);
            x.mesh(3, 0);
            x.planet(2, 3, 1);
            x.planet(1, 0, 3);
            Told.relation("mesh(3, 0)", x, 0, 0, 3, 0, NONE);
            Told.relation("planet(2, 3, 1)", x, 1, 3, 2, 3, 1);
            Told.relation("planet(1, 0, 3)", x, 2, 3, 1, 0, 3);
        });
        Due.sentence("promise 13", "NONE, when there is no third", () -> {
            GearDesk x = fourKinds();
            for (int r = 0; r < 3; r++) {
                Due.same("third gear", x.relation(r, 3), NONE);
            }
            Due.same("third gear 0", x.relation(3, 3), 0);
            x.remove(3);
            x.mesh(0, 1);
            Due.same("where a planet stood", x.relation(3, 3), NONE);
        });
        Due.sentence("promise 13", "IndexOutOfBoundsException, when there is no such relation or what", () -> {
            Unchanged.throwing(Due.INDEX, Desks.NEW, "relation(0, 0)", x -> x.relation(0, 0));
            for (int wrong : new int[] {-1, 5, MIN, MAX}) {
                Unchanged.throwing(Due.INDEX, Desks.BUSY, "relation(" + wrong + ", 0)", x -> x.relation(wrong, 0));
            }
            for (int wrong : new int[] {-1, 4, MIN, MAX}) {
                Unchanged.throwing(Due.INDEX, Desks.BUSY, "relation(0, " + wrong + ")", x -> x.relation(0, wrong));
                Unchanged.throwing(Due.INDEX, Desks.BUSY, "relation(4, " + wrong + ")", x -> x.relation(4, wrong));
            }
            Unchanged.throwing(Due.INDEX, Desks.FULL, "relation(120, 0)", x -> x.relation(120, 0));
            Unchanged.throwing(Due.INDEX, Desks.FULL, "relation(119, 4)", x -> x.relation(119, 4));
            Unchanged.answering(2, Desks.FULL, "relation(119, 0)", x -> x.relation(119, 0));
            Unchanged.answering(2, Desks.FULL, "relation(119, 2)", x -> x.relation(119, 2));
        });
    }

    private static void crank() {
        Due.sentence("promise 14", "A gear is the crank: the one before, or NONE", () -> {
            GearDesk x = Desks.withGears(20, 40);
            Due.same("none before", x.crank(0), NONE);
            Due.same("0 before", x.crank(1), 0);
            Due.same("1 before", x.crank(1), 1);
            x.clear();
            x.gear(20);
            Due.same("none after clear()", x.crank(0), NONE);
        });
        Due.sentence("promise 14", "IndexOutOfBoundsException, when there is no such gear", () -> {
            Unchanged.throwing(Due.INDEX, Desks.NEW, "crank(0)", x -> x.crank(0));
            for (int wrong : new int[] {-1, 7, MIN, MAX}) {
                Unchanged.throwing(Due.INDEX, Desks.BUSY, "crank(" + wrong + ")", x -> x.crank(wrong));
            }
            Unchanged.throwing(Due.INDEX, Desks.FULL, "crank(60)", x -> x.crank(60));
            Due.same("crank(59)", Desks.FULL.make().crank(59), 30);
            GearDesk x = Desks.withGears(20);
            Due.fails("crank(1)", Due.INDEX, () -> x.crank(1));
            Due.fails("a refused crank is none", Due.STATE, x::solve);
        });
        Due.sentence("Terms", "THE CRANK is a gear whose speed is 1", () -> {
            GearDesk x = Desks.withGears(20, 40, 60);
            x.mesh(0, 1);
            x.mesh(1, 2);
            for (int g = 0; g < 3; g++) {
                x.crank(g);
                x.solve();
                Told.speed("the crank " + g, x, g, 1, 1);
            }
        });
        Due.sentence("Terms", "SPEEDS are those that the latest solve() found (a new crank leaves them)", () -> {
            GearDesk x = Desks.withGears(20, 40);
            x.mesh(0, 1);
            x.crank(0);
            x.solve();
            x.crank(1);
            Told.speed("before solve()", x, 0, 1, 1);
            Told.speed("before solve()", x, 1, -1, 2);
            x.solve();
            Told.speed("after solve()", x, 0, -2, 1);
        });
    }

    private static void solve() {
        Due.sentence("promise 15", "Finds the speeds: NONE, when nothing clashes", () -> {
            GearDesk x = Desks.withGears(20);
            x.crank(0);
            Due.same("a crank alone", x.solve(), NONE);
            Due.same("again", x.solve(), NONE);
            Due.same("60 gears, 120 relations", Desks.FULL.make().solve(), NONE);
            Due.same("a full desk's speeds", Desks.FULL.make().count(3), 60);
        });
        Due.sentence("promise 15", "IllegalStateException, when there is no crank", () -> {
            Unchanged.throwing(Due.STATE, Desks.NEW, "solve()", GearDesk::solve);
            GearDesk x = fourKinds();
            Due.fails("gears and relations, no crank", Due.STATE, x::solve);
            Due.same("no speeds", x.count(3), 0);
            x.crank(3);
            x.remove(3);
            Due.same("with a crank", x.solve(), NONE);
            x.clear();
            Due.fails("after clear()", Due.STATE, x::solve);
            x.gear(20);
            Due.fails("with a gear, but no crank", Due.STATE, x::solve);
        });
        Due.sentence("Terms", "A gear's speed is DETERMINED, if it is the same in all ways to fit", () -> {
            GearDesk x = Desks.withGears(30, 90, 10, 20, 40, 60);
            x.crank(0);
            x.arbor(3, 4);
            x.planet(0, 1, 2);
            x.solve();
            Told.counts("nothing but the crank", x, 6, 2, 0, 1);
            // Two sets with the same ring and carrier: c = r = 1 is the only way.
            x.gear(50);
            x.arbor(0, 6);
            x.planet(6, 1, 2);
            x.solve();
            Told.counts("two sets together", x, 7, 4, 0, 4);
            Told.speed("their ring", x, 1, 1, 1);
            Told.speed("their carrier", x, 2, 1, 1);
            Due.fails("a pair apart", Due.STATE, () -> x.speed(3, 0, 0));
            x.mesh(3, 4);
            x.solve();
            Told.speed("a pair apart that can't turn", x, 4, 0, 1);
            Due.fails("in no relation", Due.STATE, () -> x.speed(5, 0, 0));
        });
        Due.sentence("Terms", "a gear that was not determined then, or came since, has none", () -> {
            GearDesk x = Desks.withGears(20, 40, 50);
            x.crank(0);
            x.mesh(0, 1);
            Due.fails("before the first solve()", Due.STATE, () -> x.speed(0, 0, 0));
            x.solve();
            Due.fails("not determined then", Due.STATE, () -> x.speed(2, 0, 0));
            int since = x.gear(60);
            x.arbor(0, since);
            x.arbor(0, 2);
            Due.fails("came since", Due.STATE, () -> x.speed(since, 0, 0));
            Due.fails("related since", Due.STATE, () -> x.speed(2, 0, 0));
            Due.same("gears with a speed", x.count(3), 2);
            x.solve();
            Told.speed("found now", x, since, 1, 1);
            Told.speed("found now", x, 2, 1, 1);
            x.remove(0);
            x.solve();
            Due.fails("no longer determined", Due.STATE, () -> x.speed(1, 0, 0));
            x.clear();
            x.gear(20);
            Due.fails("a new gear with an old number", Due.STATE, () -> x.speed(0, 0, 0));
        });
    }

    private static void clashes() {
        Due.sentence("promise 15", "the lowest number of a gear of the first relation that does", () -> {
            for (int at = 0; at < 3; at++) {
                // The three are held by the crank's arbor and by one that can't turn: the planet clashes.
                GearDesk x = Desks.withGears(11, 12, 20, 30, 40, 50);
                x.mesh(0, 1);
                x.inner(0, 1);
                x.crank(5);
                x.arbor(3, 5);
                x.arbor(4, 5);
                x.arbor(2, 0);
                x.planet(2 + (3 - at) % 3, 2 + (4 - at) % 3, 2 + (5 - at) % 3);
                Due.same("the lowest of three at place " + at, x.solve(), 2);
            }
            GearDesk y = Desks.withGears(20, 40);
            y.crank(1);
            y.mesh(1, 0);
            y.inner(0, 1);
            Due.same("gear 0 is told as 0", y.solve(), 0);
            GearDesk z = Desks.withGears(20, 40, 60);
            z.crank(1);
            z.mesh(2, 1);
            z.arbor(2, 1);
            Due.same("the second one told is lower", z.solve(), 1);
            z.remove(1);
            z.inner(1, 2);
            Due.same("the first one told is lower", z.solve(), 1);
        });
        Due.sentence("promise 15", "(speeds stay)", () -> {
            Unchanged.answering(0, Desks.CLASHING, "solve()", GearDesk::solve);
            GearDesk x = Desks.CLASHING.make();
            Due.same("a clash", x.solve(), 0);
            Told.counts("after a clash", x, 7, 6, 4, 4);
            Told.speed("after a clash", x, 3, -13, 14);
            Due.fails("still none", Due.STATE, () -> x.speed(6, 0, 0));
            GearDesk y = Desks.withGears(20, 40);
            y.crank(0);
            y.mesh(0, 1);
            y.inner(0, 1);
            Due.same("a clash at the first solve()", y.solve(), 0);
            Due.same("no speeds yet", y.count(3), 0);
        });
        Due.sentence("Terms",
                "A relation CLASHES, if there are no speeds that fit it, all before it, and the crank", () -> {
            GearDesk x = Desks.withGears(20, 40, 60, 30);
            x.mesh(1, 2);
            x.inner(1, 2);
            x.crank(0);
            Due.same("both stand still", x.solve(), NONE);
            Told.speed("both stand still", x, 1, 0, 1);
            Told.speed("both stand still", x, 2, 0, 1);
            x.arbor(3, 2);
            Due.same("so does a third", x.solve(), NONE);
            x.crank(3);
            Due.same("the crank can't: the last one clashes", x.solve(), 2);
            x.crank(2);
            Due.same("nor this one: the second clashes", x.solve(), 1);
        });
        Due.sentence("Terms", "A relation CLASHES, if .. (told twice it does not)", () -> {
            for (int kind = 0; kind < 4; kind++) {
                GearDesk x = Desks.withGears(20, 40, 60);
                x.crank(0);
                relate(x, kind, 0, 1, 2);
                relate(x, kind, 0, 1, 2);
                Due.same("twice", x.solve(), NONE);
            }
            GearDesk ring = Desks.withGears(20, 40, 60);
            ring.crank(0);
            ring.arbor(0, 1);
            ring.arbor(1, 2);
            ring.arbor(2, 0);
            Due.same("arbors in a ring", ring.solve(), NONE);
            GearDesk three = Desks.withGears(20, 40, 60);
            three.crank(0);
            three.mesh(0, 1);
            three.mesh(1, 2);
            three.mesh(2, 0);
            Due.same("three that mesh in a ring", three.solve(), 0);
        });
        Due.sentence("promise 15", "the first relation that does (of 120, the last)", () -> {
            GearDesk x = Desks.FULL.make();
            x.remove(119);
            x.mesh(58, 47);
            Due.same("the last of 120 clashes", x.solve(), 47);
            x.remove(119);
            x.mesh(59, 58);
            Due.same("the last of 120 does not", x.solve(), NONE);
        });
    }

    private static void tooLarge() {
        Due.sentence("Terms", "TOO LARGE, when its numerator .. has more than 256 bits", () -> {
            GearDesk x = Desks.LONG_TOPS.make();
            Told.longSpeed("256 bits above", x, 57, TWO_255.negate(), FIVE_29);
            Told.longSpeed("256 bits above", x, 59, TWO_255, FIVE_29);
            long257(512, 5, 16, 5);
        });
        Due.sentence("Terms", "TOO LARGE, when its .. denominator .. has more than 256 bits", () -> {
            GearDesk x = Desks.LONG_BOTTOMS.make();
            Told.longSpeed("256 bits below", x, 57, FIVE_29.negate(), TWO_255);
            long257(5, 512, 5, 16);
        });
        Due.sentence("Terms", "in lowest terms", () -> {
            // 1000 to the 30th by 500 to the 30th.
            GearDesk x = Desks.withGears(1000);
            x.crank(0);
            int last = Desks.chain(x, 0, 1000, 500, 30);
            Due.same("long factors", x.solve(), NONE);
            Told.speed("short speed", x, last, 1 << 30, 1);
            Due.same("all have speeds", x.count(3), 60);
        });
        Due.sentence("promise 15",
                "UnsupportedOperationException, when a speed is too large (one that is determined)", () -> {
            GearDesk x = Desks.withGears(512, 512);
            x.crank(1);
            Desks.chain(x, 0, 512, 5, 29);
            Due.same("a long chain apart from the crank", x.solve(), NONE);
            Due.same("has no speeds", x.count(3), 1);
            x.mesh(1, 0);
            Due.fails("and at the crank", Due.TOO_LARGE, x::solve);
            Due.same("speeds stay", x.count(3), 1);
            x.arbor(1, 0);
            Due.same("a clash leaves no speed to be too large", x.solve(), 0);
        });
    }

    /** A last pair that makes 257 bits: refused, with the speeds that were there before. */
    private static void long257(int driver, int driven, int lastDriver, int lastDriven) {
        GearDesk x = Desks.withGears(driver);
        x.crank(0);
        int last = Desks.chain(x, 0, driver, driven, 28);
        x.solve();
        int a = x.gear(lastDriver);
        int b = x.gear(lastDriven);
        x.arbor(last, a);
        int r = x.mesh(a, b);
        Due.fails("257 bits", Due.TOO_LARGE, x::solve);
        Told.counts("257 bits", x, 58, r + 1, 0, 56);
        Due.fails("no speed by it", Due.STATE, () -> x.speed(b, 0, 0));
        Due.fails("nor before it", Due.STATE, () -> x.speed(a, 0, 0));
        Due.same("the speeds before stay", x.speed(last, 0, 0), 1);
        Due.fails("again", Due.TOO_LARGE, x::solve);
        Due.same("the relation stays", x.relation(r, 2), b);
        Due.same("so does the crank", x.crank(0), 0);
        x.remove(r);
        Due.same("without it", x.solve(), NONE);
        Due.same("there are more speeds", x.count(3), 57);
    }

    private static void speed() {
        Due.sentence("promise 16", "the sign (part 0: -1, 0, 1)", () -> {
            GearDesk x = Desks.LONG_TOPS.make();
            Due.same("1", x.speed(59, 0, 0), 1);
            Due.same("-1", x.speed(57, 0, 0), -1);
            Told.speed("0 by 1", x, 58, 0, 1);
        });
        Due.sentence("promise 16", "word i (0 .. 7, 32 bits each, the lowest first)", () -> {
            // The last one of 26 pairs has 10 to the 78th above, which has 260 bits: too long; 25 pairs have 250.
            GearDesk x = Desks.withGears(1000);
            x.crank(0);
            int last = Desks.chain(x, 0, 1000, 7, 25);
            x.solve();
            Told.longSpeed("10 to the 75th by 7 to the 25th", x, last,
                    BigInteger.TEN.pow(75).negate(), BigInteger.valueOf(7).pow(25));
        });
        Due.sentence("promise 16", "of the numerator without its sign (1) or the denominator (2)", () -> {
            GearDesk x = Desks.BUSY.make();
            Told.speed("-13 by 14", x, 3, -13, 14);
            Told.speed("2 by 3", x, 2, 2, 3);
        });
        Due.sentence("promise 16", "IndexOutOfBoundsException, when there is no such gear, part or word", () -> {
            Unchanged.throwing(Due.INDEX, Desks.NEW, "speed(0, 0, 0)", x -> x.speed(0, 0, 0));
            int[][] wrongs = {
                {-1, 0, 0}, {7, 0, 0}, {MIN, 1, 0}, {MAX, 2, 0}, {0, -1, 0}, {0, 3, 0}, {0, MIN, 0}, {0, MAX, 0},
                {0, 1, -1}, {0, 1, 8}, {0, 2, -1}, {0, 2, 8}, {0, 1, MIN}, {0, 2, MAX},
                {4, 1, 8}, {6, 3, 0}, {5, 2, -1},
            };
            for (int[] w : wrongs) {
                Unchanged.throwing(Due.INDEX, Desks.BUSY, "speed(" + w[0] + ", " + w[1] + ", " + w[2] + ")",
                        x -> x.speed(w[0], w[1], w[2]));
            }
            Unchanged.throwing(Due.INDEX, Desks.FULL, "speed(60, 0, 0)", x -> x.speed(60, 0, 0));
            Unchanged.answering(0, Desks.FULL, "speed(59, 1, 7)", x -> x.speed(59, 1, 7));
            Unchanged.answering(0, Desks.FULL, "speed(59, 2, 7)", x -> x.speed(59, 2, 7));
        });
        Due.sentence("promise 16", "(with part 0: another one than 0)", () -> {
            for (int wrong : new int[] {1, 7, 8, -1, MIN, MAX}) {
                Unchanged.throwing(Due.INDEX, Desks.BUSY, "speed(0, 0, " + wrong + ")", x -> x.speed(0, 0, wrong));
                // Also for a gear without a speed.
                Unchanged.throwing(Due.INDEX, Desks.BUSY, "speed(4, 0, " + wrong + ")", x -> x.speed(4, 0, wrong));
            }
            Unchanged.answering(1, Desks.BUSY, "speed(0, 0, 0)", x -> x.speed(0, 0, 0));
        });
        Due.sentence("promise 16", "IllegalStateException, when it has none", () -> {
            for (int gear = 4; gear <= 6; gear++) {
                int g = gear;
                Unchanged.throwing(Due.STATE, Desks.BUSY, "speed(" + g + ", 0, 0)", x -> x.speed(g, 0, 0));
                Unchanged.throwing(Due.STATE, Desks.BUSY, "speed(" + g + ", 1, 7)", x -> x.speed(g, 1, 7));
                Unchanged.throwing(Due.STATE, Desks.BUSY, "speed(" + g + ", 2, 0)", x -> x.speed(g, 2, 0));
            }
        });
    }
}
