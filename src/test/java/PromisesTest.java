import java.lang.reflect.Method;
import java.math.BigInteger;

/** For each promise of the document: ordinary inputs, the edges that it names, and wrong inputs. */
public final class PromisesTest {
    private PromisesTest() {
    }

    public static void main(String[] args) throws ReflectiveOperationException {
        for (int promise = 1; promise <= 23; promise++) {
            Method test = PromisesTest.class.getDeclaredMethod("promise" + promise);
            int before = Due.wrongSoFar();
            test.invoke(null);
            if (Due.wrongSoFar() > before) {
                System.out.println("promise " + promise + " is broken");
            }
        }
        Due.end("PromisesTest");
    }

    /** Gears 0 .. 59, relations 0 .. 119, all arbors. */
    private static GearDesk full() {
        GearDesk x = new GearDesk();
        for (int g = 0; g < 60; g++) {
            x.gear(10 + g);
        }
        for (int r = 0; r < 120; r++) {
            x.arbor(r % 59, r % 59 + 1);
        }
        return x;
    }

    static void promise1() {
        GearDesk x = new GearDesk();
        Told.counts("new", x, 0, 0, 0, 0);
        Due.same("new: choices", x.count(4), 0);
        Due.fails("new: search(1)", Due.STATE, () -> Due.bit(x.search(1)));
        Due.fails("new: tooth(0, 0)", Due.STATE, () -> x.tooth(0, 0));
        Due.fails("new: error(0)", Due.STATE, () -> x.error(0));
        Due.fails("new: solve()", Due.STATE, x::solve);
        Due.fails("new: crank(0)", Due.INDEX, () -> x.crank(0));
        Due.fails("new: relation(0, 0)", Due.INDEX, () -> x.relation(0, 0));
        Due.fails("new: position(0, 1, 1)", Due.INDEX, () -> x.position(0, 1, 1));
        Due.fails("new: meet(0, 0)", Due.INDEX, () -> Due.bit(x.meet(0, 0)));
        Due.same("new: back()", Due.bit(x.back()), 0);
        Told.result("new", x, 0, 1);
        GearDesk y = new GearDesk();
        x.gear(10);
        Due.same("another desk's gears", y.count(0), 0);
    }

    static void promise2() {
        GearDesk x = new GearDesk();
        int[][] wrong = {
            {0, 1, 1, 8, 9}, {-1, 1, 1, 8, 9}, {1, 0, 1, 8, 9}, {1, Integer.MIN_VALUE, 1, 8, 9},
            {1, 1, 0, 8, 9}, {1, 1, 5, 8, 9}, {1, 1, -3, 8, 9}, {1, 1, 1, 7, 9}, {1, 1, 1, -8, 9},
            {1, 1, 1, 9, 8}, {1, 1, 1, 8, 121}, {1, 1, 1, 121, 121}, {1, 1, 3, 8, 68}, {1, 1, 3, 60, 120},
            {1, 1, 4, 8, 28}, {1, 1, 4, 100, 120}, {1, 1, 1, Integer.MIN_VALUE, Integer.MAX_VALUE},
            {1, 1, 1, 8, Integer.MIN_VALUE}, {1, 1, 1, Integer.MAX_VALUE, Integer.MAX_VALUE},
        };
        for (int[] w : wrong) {
            Due.fails("want", Due.ARGUMENT, () -> x.want(w[0], w[1], w[2], w[3], w[4]));
        }
        Due.fails("no task by a wrong want: search(1)", Due.STATE, () -> Due.bit(x.search(1)));
        int[][] right = {
            {1, 8, 8, 1}, {4, 8, 8, 1}, {1, 8, 120, 113}, {2, 8, 120, 6441}, {3, 8, 67, 37820}, {3, 61, 120, 37820},
            {4, 8, 27, 8855}, {4, 101, 120, 8855}, {2, 10, 11, 3}, {3, 10, 11, 4}, {4, 10, 11, 5}, {2, 120, 120, 1},
        };
        for (int[] r : right) {
            Due.same("want, choices", x.want(Integer.MAX_VALUE, Integer.MAX_VALUE, r[0], r[1], r[2]), r[3]);
            Due.same("want, choices left", x.count(4), r[3]);
        }
        x.want(2, 1, 1, 8, 16);
        x.search(9);
        Due.fails("want", Due.ARGUMENT, () -> x.want(3, 1, 1, 8, 121));
        Due.same("a wrong want leaves the best train", x.tooth(0, 0), 16);
        Due.same("a wrong want leaves its error", x.error(0), 0);
        Due.same("a new task", x.want(1, 2, 1, 8, 16), 9);
        Due.fails("a new task has no best train yet", Due.STATE, () -> x.tooth(0, 0));
    }

    static void promise3() {
        GearDesk x = new GearDesk();
        Due.fails("search(0) without a task", Due.ARGUMENT, () -> Due.bit(x.search(0)));
        Due.fails("search(1000001) without a task", Due.ARGUMENT, () -> Due.bit(x.search(1000001)));
        Due.fails("search(1000000) without a task", Due.STATE, () -> Due.bit(x.search(1000000)));
        x.want(5, 4, 2, 8, 11);
        for (int fuel : new int[] {0, -1, Integer.MIN_VALUE, 1000001, Integer.MAX_VALUE}) {
            Due.fails("search(" + fuel + ")", Due.ARGUMENT, () -> Due.bit(x.search(fuel)));
        }
        Due.same("a wrong search goes through nothing", x.count(4), 10);
        Due.same("search(1) of 10", Due.bit(x.search(1)), 0);
        Due.same("left", x.count(4), 9);
        Due.same("search(8) of 9", Due.bit(x.search(8)), 0);
        Due.same("left", x.count(4), 1);
        Due.same("search(1) of 1", Due.bit(x.search(1)), 1);
        Due.same("search(1) of 0", Due.bit(x.search(1)), 1);
        Due.same("left", x.count(4), 0);
        int[] best = {x.tooth(0, 0), x.tooth(0, 1), x.tooth(1, 0), x.tooth(1, 1)};
        x.want(5, 4, 2, 8, 11);
        Due.same("search(1000000)", Due.bit(x.search(1000000)), 1);
        for (int i = 0; i < 4; i++) {
            Due.same("the same train whatever the fuel", x.tooth(i / 2, i % 2), best[i]);
        }
        x.want(1, 1, 1, 8, 11);
        Due.same("search of exactly all", Due.bit(x.search(4)), 1);
    }

    static void promise4() {
        GearDesk x = new GearDesk();
        Due.fails("tooth(9, 9) without a task", Due.STATE, () -> x.tooth(9, 9));
        x.want(235, 19, 2, 8, 120);
        Due.fails("tooth(9, 9) before the search", Due.STATE, () -> x.tooth(9, 9));
        x.search(6440);
        Due.fails("tooth(0, 0) with a choice left", Due.STATE, () -> x.tooth(0, 0));
        x.search(1);
        Told.train(x, 40, 8, 47, 19);
        for (int[] w : new int[][] {{-1, 0}, {2, 0}, {0, -1}, {0, 2}, {Integer.MIN_VALUE, 1}, {1, Integer.MAX_VALUE}}) {
            Due.fails("tooth(" + w[0] + ", " + w[1] + ")", Due.INDEX, () -> x.tooth(w[0], w[1]));
        }
        // Many trains without an error: the fewest teeth in all.
        x.want(1, 1, 3, 8, 67);
        x.search(1000000);
        Told.train(x, 8, 8, 8, 8, 8, 8);
        x.want(3, 2, 1, 10, 14);
        x.search(5);
        Told.train(x, 14, 10);
        x.want(3, 2, 1, 10, 30);
        x.search(21);
        Told.train(x, 15, 10);
        // Half way between 8 by 9 and 8 by 8: the fewer teeth, from above or from below.
        x.want(17, 18, 1, 8, 9);
        x.search(2);
        Told.train(x, 8, 8);
        x.want(17, 16, 1, 8, 9);
        x.search(2);
        Told.train(x, 8, 8);
        x.want(4, 9, 2, 8, 12);
        x.search(1000);
        Told.train(x, 8, 12, 8, 12);
        // As far off and as many teeth: 36, 33, 37, 33 and, from the other side, this least list.
        x.want(11, 9, 2, 33, 40);
        x.search(1000);
        Told.train(x, 35, 33, 38, 33);
        // As many teeth without an error: the drivers' product by other drivers, by other driven wheels, by both.
        x.want(504, 319, 3, 10, 33);
        x.search(10000);
        Told.train(x, 14, 10, 18, 11, 20, 29);
        x.want(12, 77, 3, 8, 31);
        x.search(10000);
        Told.train(x, 8, 11, 8, 16, 9, 21);
        x.want(12, 35, 3, 9, 32);
        x.search(10000);
        Told.train(x, 9, 9, 9, 15, 12, 21);
        x.want(2772, 1235, 4, 10, 23);
        x.search(10000);
        Told.train(x, 11, 10, 14, 10, 18, 13, 20, 19);
        leastLists(x);
    }

    /** As far off from either side and as many teeth, where the least list has the greater products. */
    private static void leastLists(GearDesk x) {
        int[][] tasks = {
            {263273, 636480, 3, 8, 17}, {19601, 59290, 3, 8, 17}, {87361, 87780, 3, 10, 19},
            {465993, 1838720, 3, 9, 18},
            {2201, 1296, 4, 12, 16}, {511879, 947700, 4, 8, 13}, {87779, 50400, 4, 8, 14}, {316944, 538265, 4, 12, 16},
        };
        int[][] trains = {
            {8, 12, 11, 13, 11, 15}, {8, 10, 9, 14, 9, 14}, {10, 10, 11, 14, 19, 15}, {9, 12, 9, 15, 9, 16},
            {12, 12, 14, 12, 14, 12, 15, 12}, {8, 8, 8, 10, 9, 10, 9, 12}, {8, 8, 8, 9, 14, 10, 14, 10},
            {12, 12, 12, 14, 12, 14, 12, 15},
        };
        for (int i = 0; i < tasks.length; i++) {
            int[] t = tasks[i];
            x.want(t[0], t[1], t[2], t[3], t[4]);
            x.search(1000);
            Told.train(x, trains[i]);
        }
    }

    static void promise5() {
        GearDesk x = new GearDesk();
        Due.fails("error(7) without a task", Due.STATE, () -> x.error(7));
        x.want(2147483647, 1000000007, 3, 20, 79);
        x.search(37819);
        Due.fails("error(7) with a choice left", Due.STATE, () -> x.error(7));
        x.search(1);
        Due.same("error(0)", x.error(0), 7692439L);
        Due.same("error(1)", x.error(1), 115328000807296L);
        for (int part : new int[] {-1, 2, Integer.MIN_VALUE, Integer.MAX_VALUE}) {
            Due.fails("error(" + part + ")", Due.INDEX, () -> x.error(part));
        }
        x.want(235, 19, 2, 8, 120);
        x.search(1000000);
        Due.same("no error: top", x.error(0), 0);
        Due.same("no error: bottom", x.error(1), 1);
        x.want(1, 2147483647, 4, 120, 120);
        x.search(1);
        Due.same("longest error: top", x.error(0), 2147483646L);
        Due.same("longest error: bottom", x.error(1), 2147483647L);
        x.want(1, 2147483647, 4, 119, 120);
        x.search(5);
        long p = 120L * 120 * 120 * 120;
        Due.same("error below all: top", x.error(0), 119L * 119 * 119 * 119 * 2147483647L - p);
        Due.same("error below all: bottom", x.error(1), p * 2147483647L);
        x.want(6, 4, 1, 8, 8);
        x.search(1);
        Due.same("in lowest terms: top", x.error(0), 1);
        Due.same("in lowest terms: bottom", x.error(1), 2);
    }

    static void promise6() {
        GearDesk x = new GearDesk();
        int[] parts = {4, 2, 6, 7};
        for (int i = 0; i < 4; i++) {
            Due.same("quotient(415, 93, " + i + ")", x.quotient(415, 93, i), parts[i]);
        }
        Due.fails("quotient(415, 93, 4)", Due.INDEX, () -> x.quotient(415, 93, 4));
        Due.fails("quotient(415, 93, max)", Due.INDEX, () -> x.quotient(415, 93, Integer.MAX_VALUE));
        Due.fails("quotient(415, 93, -1)", Due.INDEX, () -> x.quotient(415, 93, -1));
        Due.fails("quotient(415, 93, min)", Due.INDEX, () -> x.quotient(415, 93, Integer.MIN_VALUE));
        Due.same("quotient(1, max, 0)", x.quotient(1, Integer.MAX_VALUE, 0), 0);
        Due.same("quotient(1, max, 1)", x.quotient(1, Integer.MAX_VALUE, 1), Integer.MAX_VALUE);
        Due.same("quotient(max, 1, 0)", x.quotient(Integer.MAX_VALUE, 1, 0), Integer.MAX_VALUE);
        Due.fails("quotient(6, 3, 1)", Due.INDEX, () -> x.quotient(6, 3, 1));
        Due.same("quotient(6, 4, 1), not in lowest terms", x.quotient(6, 4, 1), 2);
        // The longest of all: two neighbours in Fibonacci's row.
        Due.same("quotient(1836311903, 1134903170, 43)", x.quotient(1836311903, 1134903170, 43), 2);
        Due.same("quotient(1836311903, 1134903170, 42)", x.quotient(1836311903, 1134903170, 42), 1);
        Due.fails("quotient(1836311903, 1134903170, 44)", Due.INDEX, () -> x.quotient(1836311903, 1134903170, 44));
        for (int[] w : new int[][] {{0, 1}, {1, 0}, {-5, 3}, {5, -3}, {Integer.MIN_VALUE, Integer.MIN_VALUE}}) {
            Due.fails("quotient(" + w[0] + ", " + w[1] + ", 0)", Due.ARGUMENT, () -> x.quotient(w[0], w[1], 0));
            Due.fails("quotient(" + w[0] + ", " + w[1] + ", -1)", Due.ARGUMENT, () -> x.quotient(w[0], w[1], -1));
        }
    }

    static void promise7() {
        GearDesk x = new GearDesk();
        for (int teeth : new int[] {3, 0, -4, 1001, Integer.MIN_VALUE, Integer.MAX_VALUE}) {
            Due.fails("gear(" + teeth + ")", Due.ARGUMENT, () -> x.gear(teeth));
        }
        Due.same("no gear by a wrong call", x.count(0), 0);
        Due.same("gear(4)", x.gear(4), 0);
        Due.same("gear(1000)", x.gear(1000), 1);
        for (int g = 2; g < 60; g++) {
            Due.same("gear(20)", x.gear(20), g);
        }
        Due.fails("the 61st gear", Due.STATE, () -> x.gear(20));
        Due.fails("the 61st gear with wrong teeth", Due.ARGUMENT, () -> x.gear(3));
        Due.same("gears", x.count(0), 60);
        x.mesh(0, 1);
        x.crank(0);
        x.solve();
        Told.speed("4 teeth on 1000", x, 1, -1, 250);
    }

    static void promise8() {
        GearDesk x = Desks.withGears(20, 40, 50);
        for (int[] w : new int[][] {{-1, 0}, {0, -1}, {3, 0}, {0, 3}, {3, 3}, {-1, -1}, {0, Integer.MAX_VALUE}}) {
            Due.fails("mesh(" + w[0] + ", " + w[1] + ")", Due.INDEX, () -> x.mesh(w[0], w[1]));
        }
        Due.fails("mesh(1, 1)", Due.ARGUMENT, () -> x.mesh(1, 1));
        Due.same("no relation by a wrong call", x.count(1), 0);
        Due.same("mesh(0, 1)", x.mesh(0, 1), 0);
        Due.same("mesh(2, 1)", x.mesh(2, 1), 1);
        Due.same("mesh(0, 1) again", x.mesh(0, 1), 2);
        Told.relation("mesh(2, 1)", x, 1, 0, 2, 1, GearDesk.NONE);
        x.crank(0);
        Due.same("solve()", x.solve(), GearDesk.NONE);
        Told.speed("mesh", x, 1, -1, 2);
        Told.speed("mesh of mesh", x, 2, 2, 5);
        GearDesk y = full();
        Due.fails("the 121st relation", Due.STATE, () -> y.mesh(0, 1));
        Due.fails("the 121st relation, of one gear", Due.ARGUMENT, () -> y.mesh(1, 1));
        Due.fails("the 121st relation, of no gear", Due.INDEX, () -> y.mesh(60, 60));
        Due.same("relations", y.count(1), 120);
    }

    static void promise9() {
        GearDesk x = Desks.withGears(20, 40, 40, 90);
        for (int[] w : new int[][] {{-1, 0}, {0, -1}, {4, 0}, {0, 4}, {4, 4}}) {
            Due.fails("inner(" + w[0] + ", " + w[1] + ")", Due.INDEX, () -> x.inner(w[0], w[1]));
        }
        Due.fails("inner of one gear", Due.ARGUMENT, () -> x.inner(1, 1));
        Due.fails("inner with fewer teeth", Due.ARGUMENT, () -> x.inner(1, 0));
        Due.fails("inner with as many teeth", Due.ARGUMENT, () -> x.inner(1, 2));
        Due.same("no relation by a wrong call", x.count(1), 0);
        Due.same("inner(0, 1)", x.inner(0, 1), 0);
        Due.same("inner(1, 3)", x.inner(1, 3), 1);
        Told.relation("inner(1, 3)", x, 1, 1, 1, 3, GearDesk.NONE);
        x.crank(3);
        x.solve();
        Told.speed("inner, the outer one", x, 3, 1, 1);
        Told.speed("inner", x, 1, 9, 4);
        Told.speed("inner of inner", x, 0, 9, 2);
        GearDesk y = full();
        Due.fails("the 121st relation", Due.STATE, () -> y.inner(0, 1));
        Due.fails("the 121st relation, with fewer teeth", Due.ARGUMENT, () -> y.inner(1, 0));
        Due.fails("the 121st relation, of no gear", Due.INDEX, () -> y.inner(0, 60));
        Due.same("relations", y.count(1), 120);
    }

    static void promise10() {
        GearDesk x = Desks.withGears(20, 40, 50);
        for (int[] w : new int[][] {{-1, 0}, {0, -1}, {3, 0}, {0, 3}, {3, 3}}) {
            Due.fails("arbor(" + w[0] + ", " + w[1] + ")", Due.INDEX, () -> x.arbor(w[0], w[1]));
        }
        Due.fails("arbor of one gear", Due.ARGUMENT, () -> x.arbor(0, 0));
        Due.same("no relation by a wrong call", x.count(1), 0);
        Due.same("arbor(2, 0)", x.arbor(2, 0), 0);
        Told.relation("arbor(2, 0)", x, 0, 2, 2, 0, GearDesk.NONE);
        x.mesh(0, 1);
        x.crank(1);
        x.solve();
        Told.speed("arbor", x, 2, -2, 1);
        GearDesk y = full();
        Due.fails("the 121st relation", Due.STATE, () -> y.arbor(0, 1));
        Due.fails("the 121st relation, of one gear", Due.ARGUMENT, () -> y.arbor(0, 0));
        Due.fails("the 121st relation, of no gear", Due.INDEX, () -> y.arbor(-1, -1));
    }

    static void promise11() {
        GearDesk x = Desks.withGears(20, 70, 33, 10);
        for (int[] w : new int[][] {{-1, 0, 1}, {0, -1, 1}, {0, 1, -1}, {4, 0, 1}, {0, 4, 1}, {0, 1, 4}, {0, 0, 4}}) {
            Due.fails("planet(" + w[0] + ", " + w[1] + ", " + w[2] + ")", Due.INDEX, () -> x.planet(w[0], w[1], w[2]));
        }
        for (int[] w : new int[][] {{0, 0, 1}, {0, 1, 0}, {1, 0, 0}, {2, 2, 2}}) {
            Due.fails("planet(" + w[0] + ", " + w[1] + ", " + w[2] + ")", Due.ARGUMENT,
                    () -> x.planet(w[0], w[1], w[2]));
        }
        Due.same("no relation by a wrong call", x.count(1), 0);
        Due.same("planet(0, 1, 2)", x.planet(0, 1, 2), 0);
        Told.relation("planet(0, 1, 2)", x, 0, 3, 0, 1, 2);
        x.crank(0);
        x.solve();
        Told.speed("the sun alone", x, 0, 1, 1);
        Due.fails("ring and carrier are free", Due.STATE, () -> x.speed(1, 0, 0));
        Due.fails("carrier and ring are free", Due.STATE, () -> x.speed(2, 0, 0));
        // 20 * (1 - c) + 70 * (r - c) = 0 with r = -2: c = -120/90.
        x.mesh(0, 3);
        x.arbor(3, 1);
        x.solve();
        Told.speed("the ring", x, 1, -2, 1);
        Told.speed("the carrier", x, 2, -4, 3);
        GearDesk y = Desks.withGears(20, 70, 33, 20, 12);
        y.crank(0);
        y.planet(0, 1, 2);
        // Two wheels that mesh and mesh inside stand still: the ring is held by their arbor.
        y.mesh(3, 4);
        y.inner(4, 3);
        y.arbor(1, 3);
        Due.same("a ring that is held", y.solve(), GearDesk.NONE);
        Told.speed("a ring that is held", y, 1, 0, 1);
        Told.speed("its carrier", y, 2, 2, 9);
        GearDesk z = full();
        Due.fails("the 121st relation", Due.STATE, () -> z.planet(0, 1, 2));
        Due.fails("the 121st relation, of two gears", Due.ARGUMENT, () -> z.planet(0, 1, 1));
        Due.fails("the 121st relation, of no gear", Due.INDEX, () -> z.planet(1, 1, 60));
    }

    static void promise12() {
        GearDesk x = Desks.withGears(20, 40, 50, 60);
        Due.fails("remove(0) of none", Due.INDEX, () -> x.remove(0));
        x.mesh(0, 1);
        x.inner(1, 2);
        x.arbor(2, 3);
        x.planet(3, 1, 0);
        for (int r : new int[] {-1, 4, Integer.MIN_VALUE, Integer.MAX_VALUE}) {
            Due.fails("remove(" + r + ")", Due.INDEX, () -> x.remove(r));
        }
        Due.same("no relation gone by a wrong call", x.count(1), 4);
        Due.same("remove(1)", x.remove(1), 3);
        Told.relation("before it", x, 0, 0, 0, 1, GearDesk.NONE);
        Told.relation("behind it", x, 1, 2, 2, 3, GearDesk.NONE);
        Told.relation("last", x, 2, 3, 3, 1, 0);
        Due.fails("the place of the last", Due.INDEX, () -> x.relation(3, 0));
        Due.same("remove the last", x.remove(2), 2);
        Due.same("remove the first", x.remove(0), 1);
        Told.relation("the one that is left", x, 0, 2, 2, 3, GearDesk.NONE);
        Due.same("remove the only one", x.remove(0), 0);
        GearDesk y = full();
        y.crank(0);
        y.solve();
        Due.same("remove the last of 120", y.remove(119), 119);
        Due.same("a new one in its place", y.mesh(3, 4), 119);
        Due.same("remove the first of 120", y.remove(0), 119);
        Due.same("speeds stay when a relation goes", y.count(3), 60);
    }

    static void promise13() {
        GearDesk x = Desks.withGears(20, 40, 50, 60);
        x.mesh(3, 1);
        x.planet(2, 3, 0);
        x.inner(1, 2);
        x.arbor(3, 0);
        Told.relation("mesh", x, 0, 0, 3, 1, GearDesk.NONE);
        Told.relation("planet", x, 1, 3, 2, 3, 0);
        Told.relation("inner", x, 2, 1, 1, 2, GearDesk.NONE);
        Told.relation("arbor", x, 3, 2, 3, 0, GearDesk.NONE);
        for (int[] w : new int[][] {{-1, 0}, {4, 0}, {0, -1}, {0, 4}, {4, 4}, {Integer.MAX_VALUE, Integer.MIN_VALUE}}) {
            Due.fails("relation(" + w[0] + ", " + w[1] + ")", Due.INDEX, () -> x.relation(w[0], w[1]));
        }
    }

    static void promise14() {
        GearDesk x = Desks.withGears(20, 40);
        for (int g : new int[] {-1, 2, Integer.MIN_VALUE, Integer.MAX_VALUE}) {
            Due.fails("crank(" + g + ")", Due.INDEX, () -> x.crank(g));
        }
        Due.fails("no crank by a wrong call", Due.STATE, x::solve);
        Due.same("the first crank", x.crank(1), GearDesk.NONE);
        Due.fails("crank(2)", Due.INDEX, () -> x.crank(2));
        Due.same("the same again", x.crank(1), 1);
        x.mesh(0, 1);
        x.solve();
        Told.speed("crank 1", x, 0, -2, 1);
        Due.same("another crank", x.crank(0), 1);
        Told.speed("speeds stay until solve()", x, 0, -2, 1);
        x.solve();
        Told.speed("crank 0", x, 0, 1, 1);
        Told.speed("crank 0, the other", x, 1, -1, 2);
    }

    static void promise15() {
        GearDesk x = Desks.withGears(20, 40, 60, 35, 24);
        Due.fails("solve() without a crank", Due.STATE, x::solve);
        x.crank(2);
        Due.same("solve() without relations", x.solve(), GearDesk.NONE);
        Told.counts("the crank alone", x, 5, 0, 0, 1);
        x.mesh(4, 2);
        x.solve();
        Told.speed("mesh", x, 4, -5, 2);
        x.arbor(3, 1);
        Due.same("a pair apart from the crank", x.solve(), GearDesk.NONE);
        Due.fails("has no speed", Due.STATE, () -> x.speed(3, 0, 0));
        x.planet(4, 3, 2);
        x.arbor(4, 2);
        x.mesh(0, 1);
        x.inner(0, 1);
        // The planet needs nothing that the arbor forbids, but mesh and arbor clash.
        Due.same("the first that clashes", x.solve(), 2);
        Told.speed("speeds stay", x, 4, -5, 2);
        x.remove(3);
        // 24 * (-5/2 - 1) + 35 * (r - 1) = 0: r = 17/5 for gears 3 and 1; then mesh and inner ask 0 of it.
        Due.same("the first that clashes now", x.solve(), 0);
        x.remove(4);
        Due.same("nothing clashes", x.solve(), GearDesk.NONE);
        Told.speed("the ring", x, 3, 17, 5);
        Told.speed("on its arbor", x, 1, 17, 5);
        Told.speed("meshing", x, 0, -34, 5);
        clashes();
        lengths();
    }

    private static void clashes() {
        GearDesk x = Desks.withGears(30, 20, 40);
        x.crank(1);
        x.mesh(1, 2);
        x.inner(1, 2);
        Due.same("a clash of two", x.solve(), 1);
        GearDesk y = Desks.withGears(30, 20, 40, 17, 90);
        y.mesh(1, 2);
        y.inner(1, 2);
        y.crank(0);
        Due.same("gears that stand still do not clash", y.solve(), GearDesk.NONE);
        Told.speed("standing still", y, 1, 0, 1);
        Told.speed("standing still", y, 2, 0, 1);
        y.crank(2);
        Due.same("but the crank does", y.solve(), 1);
        y.crank(0);
        y.arbor(3, 4);
        y.planet(2, 4, 0);
        // 90 * (w - 1) = 40: w = 13/9, on gears 4 and 3.
        y.solve();
        Told.speed("a sun that stands still", y, 4, 13, 9);
        y.planet(4, 2, 3);
        Due.same("the lowest of three gears", y.solve(), 2);
        y.remove(4);
        y.mesh(4, 3);
        y.arbor(4, 0);
        Due.same("the first of two that clash", y.solve(), 3);
        y.remove(4);
        Due.same("the second of them", y.solve(), 0);
    }

    /** Speeds of 2 to the 255th by 5 to the 29th may be told, those with one bit more may not. */
    private static void lengths() {
        for (int swap = 0; swap < 2; swap++) {
            int driver = swap == 0 ? 512 : 5;
            int driven = swap == 0 ? 5 : 512;
            GearDesk x = Desks.withGears(driver);
            x.crank(0);
            int last = Desks.chain(x, 0, driver, driven, 28);
            int a = x.gear(swap == 0 ? 8 : 5);
            int b = x.gear(swap == 0 ? 5 : 8);
            int c = x.gear(swap == 0 ? 16 : 10);
            x.arbor(last, a);
            x.mesh(a, b);
            Due.same("256 bits", x.solve(), GearDesk.NONE);
            Due.same("256 bits, sign", x.speed(b, 0, 0), -1);
            Due.same("256 bits, highest word", x.speed(b, 1 + swap, 7), Integer.MIN_VALUE);
            for (int i = 0; i < 7; i++) {
                Due.same("256 bits, word " + i, x.speed(b, 1 + swap, i), 0);
            }
            Due.same("5 to the 29th, word 0", x.speed(b, 2 - swap, 0), BigInteger.valueOf(5).pow(29).intValue());
            int known = x.count(3);
            x.arbor(a, c);
            int d = x.gear(swap == 0 ? 5 : 16);
            int e = x.mesh(c, d);
            // Of 5 by 16 and 10 by 16 only the first is long enough.
            if (swap == 1) {
                x.remove(e);
                x.mesh(a, d);
            }
            Due.fails("257 bits", Due.TOO_LARGE, x::solve);
            Due.same("speeds stay", x.count(3), known);
            Due.same("speeds stay as they are", x.speed(b, 1 + swap, 7), Integer.MIN_VALUE);
            Due.fails("that one has none", Due.STATE, () -> x.speed(d, 0, 0));
            x.arbor(d, last);
            Due.same("a clash comes before a long speed", x.solve(), Math.min(d, last));
        }
        GearDesk y = Desks.withGears(512);
        int crank = y.gear(100);
        y.crank(crank);
        Desks.chain(y, 0, 512, 5, 29);
        Due.same("long ratios apart from the crank", y.solve(), GearDesk.NONE);
        Told.counts("long ratios apart from the crank", y, 59, 57, 0, 1);
    }

    static void promise16() {
        GearDesk x = Desks.withGears(20, 40, 60);
        x.crank(0);
        for (int[] w : new int[][] {{-1, 0, 0}, {3, 0, 0}, {0, -1, 0}, {0, 3, 0}, {0, 0, 1}, {0, 0, -1}, {0, 1, 8},
            {0, 2, 8}, {0, 1, -1}, {0, 2, -1}, {Integer.MAX_VALUE, 1, 1}}) {
            Due.fails("speed(" + w[0] + ", " + w[1] + ", " + w[2] + ") before", Due.INDEX,
                    () -> x.speed(w[0], w[1], w[2]));
        }
        Due.fails("speed(0, 0, 0) before solve()", Due.STATE, () -> x.speed(0, 0, 0));
        Due.fails("speed(0, 2, 7) before solve()", Due.STATE, () -> x.speed(0, 2, 7));
        x.mesh(0, 1);
        x.solve();
        Told.speed("the crank", x, 0, 1, 1);
        Told.speed("20 on 40", x, 1, -1, 2);
        Due.fails("a gear that is not determined", Due.STATE, () -> x.speed(2, 1, 0));
        Due.fails("a wrong word of it", Due.INDEX, () -> x.speed(2, 1, 8));
        int g = x.gear(77);
        Due.fails("a gear that came since", Due.STATE, () -> x.speed(g, 0, 0));
        x.arbor(1, g);
        x.remove(0);
        x.solve();
        Due.fails("no longer determined", Due.STATE, () -> x.speed(1, 0, 0));
        Due.same("gears with a speed", x.count(3), 1);
        GearDesk y = Desks.withGears(1000);
        y.crank(0);
        int last = Desks.chain(y, 0, 1000, 7, 9);
        y.solve();
        // 10 to the 27th: 0x33b2e3c 9fd0803c e8000000.
        int[] words = {0xe8000000, 0x9fd0803c, 0x33b2e3c, 0, 0, 0, 0, 0};
        for (int i = 0; i < 8; i++) {
            Due.same("10 to the 27th, word " + i, y.speed(last, 1, i), words[i]);
        }
        Due.same("its sign", y.speed(last, 0, 0), -1);
        Due.same("7 to the ninth", y.speed(last, 2, 0), 40353607);
    }

    static void promise17() {
        GearDesk x = Desks.withGears(20, 40);
        for (int[] w : new int[][] {{-1, 0, 1}, {12, 0, 1}, {0, -1, 1}, {0, 2, 1}, {12, 2, 0}, {0, 2, 0}}) {
            Due.fails("dial(" + w[0] + ", " + w[1] + ", " + w[2] + ")", Due.INDEX, () -> x.dial(w[0], w[1], w[2]));
        }
        for (int divisions : new int[] {0, -1, 100001, Integer.MIN_VALUE, Integer.MAX_VALUE}) {
            Due.fails("dial(0, 0, " + divisions + ")", Due.ARGUMENT, () -> x.dial(0, 0, divisions));
        }
        Due.same("no dial by a wrong call", x.count(2), 0);
        Due.same("dial(0, 1, 1)", x.dial(0, 1, 1), GearDesk.NONE);
        Due.same("dial(11, 0, 100000)", x.dial(11, 0, 100000), GearDesk.NONE);
        Due.same("dials", x.count(2), 2);
        Due.same("dial(0, 0, 12)", x.dial(0, 0, 12), 1);
        Due.fails("dial(0, 1, 0)", Due.ARGUMENT, () -> x.dial(0, 1, 0));
        Due.same("the gear before is not that of a wrong call", x.dial(0, 1, 60), 0);
        Due.same("dials", x.count(2), 2);
        x.crank(1);
        x.solve();
        Due.same("60 divisions", x.position(0, 1, 4), 15);
        x.dial(0, 1, 8);
        Due.same("8 divisions", x.position(0, 1, 4), 2);
    }

    static void promise18() {
        GearDesk x = Desks.withGears(20, 30, 50);
        x.mesh(0, 1);
        x.crank(0);
        x.dial(3, 1, 60);
        x.dial(4, 2, 60);
        x.dial(5, 0, 100000);
        for (int k : new int[] {-1, 0, 12, Integer.MIN_VALUE, Integer.MAX_VALUE}) {
            Due.fails("position(" + k + ", 1, 0)", Due.INDEX, () -> x.position(k, 1, 0));
        }
        Due.fails("position(3, 1, 0)", Due.ARGUMENT, () -> x.position(3, 1, 0));
        Due.fails("position(3, 1, min)", Due.ARGUMENT, () -> x.position(3, 1, Integer.MIN_VALUE));
        Due.fails("position(3, 1, 1) before solve()", Due.STATE, () -> x.position(3, 1, 1));
        x.solve();
        Due.fails("position(4, 1, 1), not determined", Due.STATE, () -> x.position(4, 1, 1));
        Told.result("nothing found yet", x, 0, 1);
        Due.same("at the start", x.position(3, 0, 1), 0);
        Told.result("at the start", x, 0, 1);
        // A turn of the crank is -2/3 of one: 1/3, 20 divisions.
        Due.same("position(3, 1, 1)", x.position(3, 1, 1), 20);
        Told.result("position(3, 1, 1)", x, 0, 1);
        Due.same("position(3, -1, 1)", x.position(3, -1, 1), 40);
        // -2/21: 19/21 of a turn, 54 divisions and 2/7.
        Due.same("position(3, 1, 7)", x.position(3, 1, 7), 54);
        Told.result("position(3, 1, 7)", x, 2, 7);
        Due.same("position(3, -3, 2), a whole turn", x.position(3, -3, 2), 0);
        Told.result("position(3, -3, 2)", x, 0, 1);
        Due.same("position(5, -1, max)", x.position(5, -1, Integer.MAX_VALUE), 99999);
        Told.result("position(5, -1, max)", x, 2147383647, Integer.MAX_VALUE);
        Due.same("position(5, min, max)", x.position(5, Integer.MIN_VALUE, Integer.MAX_VALUE), 99999);
        Told.result("position(5, min, max)", x, 2147383647, Integer.MAX_VALUE);
        Due.same("position(5, 6, 4)", x.position(5, 6, 4), 50000);
        Due.fails("position(3, 1, -7)", Due.ARGUMENT, () -> x.position(3, 1, -7));
        Told.result("stays after a wrong call", x, 0, 1);
        GearDesk y = Desks.withGears(5);
        y.crank(0);
        int last = Desks.chain(y, 0, 5, 512, 28);
        y.dial(0, last, 7);
        y.dial(1, last, 16);
        y.solve();
        y.dial(2, 0, 4);
        y.position(2, 1, 3);
        Told.result("a rest of 1/3", y, 1, 3);
        Due.fails("a rest by 2 to the 257th", Due.TOO_LARGE, () -> y.position(0, 1, 32));
        Due.fails("a rest by 2 to the 256th", Due.TOO_LARGE, () -> y.position(0, 1, 16));
        Told.result("stays when the rest is too large", y, 1, 3);
        Due.same("a rest by 2 to the 255th", Due.outcome(() -> y.position(0, 1, 8)).length(), 1);
        Due.same("its highest word", y.result(1, 7), Integer.MIN_VALUE);
        Due.same("its lowest word", y.result(1, 0), 0);
        Due.same("the divisions shorten it", Due.outcome(() -> y.position(1, 1, 128)).length(), 1);
        Due.same("its highest word", y.result(1, 7), Integer.MIN_VALUE);
        Due.same("with a long hand", Due.outcome(() -> y.position(1, -1, 128)).length(), 2);
    }

    static void promise19() {
        GearDesk x = Desks.withGears(20, 40, 30, 50, 80);
        x.mesh(0, 1);
        x.inner(0, 2);
        x.mesh(3, 4);
        x.crank(0);
        x.dial(0, 0, 12);
        x.dial(1, 1, 60);
        x.dial(2, 2, 7);
        x.dial(3, 3, 7);
        x.dial(4, 0, 9);
        for (int[] w : new int[][] {{-1, 0}, {0, -1}, {12, 0}, {0, 12}, {5, 0}, {0, 5}, {5, 5}, {3, 5}}) {
            Due.fails("meet(" + w[0] + ", " + w[1] + ")", Due.INDEX, () -> Due.bit(x.meet(w[0], w[1])));
        }
        Due.same("before solve()", Due.bit(x.meet(0, 1)), 0);
        x.solve();
        // 1 and -1/2 differ by 3/2.
        Due.same("meet(0, 1)", Due.bit(x.meet(0, 1)), 1);
        Told.result("meet(0, 1)", x, 2, 3);
        Due.same("meet(0, 3), which has no speed", Due.bit(x.meet(0, 3)), 0);
        Due.same("meet(3, 0), which has no speed", Due.bit(x.meet(3, 0)), 0);
        Due.same("meet(0, 4), equal speeds", Due.bit(x.meet(0, 4)), 0);
        Due.same("meet(1, 1)", Due.bit(x.meet(1, 1)), 0);
        Due.fails("meet(0, 11)", Due.INDEX, () -> Due.bit(x.meet(0, 11)));
        Told.result("stays", x, 2, 3);
        Due.same("meet(0, 2)", Due.bit(x.meet(0, 2)), 1);
        Told.result("meet(0, 2)", x, 3, 1);
        Due.same("meet(2, 0)", Due.bit(x.meet(2, 0)), 1);
        Told.result("meet(2, 0)", x, 3, 1);
        // -1/2 and 2/3 differ by 7/6.
        Due.same("meet(1, 2)", Due.bit(x.meet(1, 2)), 1);
        Told.result("meet(1, 2)", x, 6, 7);
        x.inner(3, 4);
        x.solve();
        Due.same("with a hand that stands still", Due.bit(x.meet(1, 3)), 1);
        Told.result("with a hand that stands still", x, 2, 1);
        GearDesk y = twoLongBranches();
        Due.fails("turns that are too large", Due.TOO_LARGE, () -> Due.bit(y.meet(0, 1)));
        Told.result("stays when they are too large", y, 1, 3);
        Due.same("long turns", Due.bit(y.meet(0, 2)), 1);
    }

    /** Dials 0 and 1 with speeds of which one has 2 to the 135th and one 3 to the 90th below, dial 2 with the crank. */
    private static GearDesk twoLongBranches() {
        GearDesk y = Desks.withGears(5);
        y.crank(0);
        y.dial(0, Desks.chain(y, 0, 5, 512, 15), 4);
        y.dial(1, Desks.chain(y, 0, 5, 729, 15), 4);
        y.dial(2, 0, 4);
        y.solve();
        y.position(2, 1, 3);
        return y;
    }

    static void promise20() {
        GearDesk x = Desks.withGears(20, 40, 30, 50, 80);
        x.mesh(0, 1);
        x.inner(0, 2);
        x.mesh(3, 4);
        x.inner(3, 4);
        x.crank(0);
        Due.same("no dials", Due.bit(x.back()), 0);
        x.dial(5, 3, 10);
        Due.same("no speed", Due.bit(x.back()), 0);
        x.solve();
        Due.same("no hand moves", Due.bit(x.back()), 0);
        Told.result("stays", x, 0, 1);
        x.dial(0, 1, 10);
        // -1/2 of a turn; the other stands still, at the start.
        Due.same("one hand", Due.bit(x.back()), 1);
        Told.result("one hand", x, 2, 1);
        x.dial(11, 2, 10);
        Due.same("1/2 and 2/3", Due.bit(x.back()), 1);
        Told.result("1/2 and 2/3", x, 6, 1);
        x.dial(0, 2, 10);
        Due.same("2/3", Due.bit(x.back()), 1);
        Told.result("2/3", x, 3, 2);
        x.dial(3, x.gear(20), 10);
        Due.same("a hand without a speed", Due.bit(x.back()), 0);
        Told.result("stays", x, 3, 2);
        x.arbor(0, 5);
        x.crank(2);
        x.solve();
        // 1, 0 and 3/2.
        Due.same("another crank", Due.bit(x.back()), 1);
        Told.result("another crank", x, 2, 1);
        GearDesk y = twoLongBranches();
        Due.fails("turns that are too large", Due.TOO_LARGE, () -> Due.bit(y.back()));
        Told.result("stays when they are too large", y, 1, 3);
        y.dial(3, y.gear(9), 1);
        Due.same("too large, but a hand has no speed", Due.bit(y.back()), 0);
        GearDesk z = Desks.withGears(5);
        z.crank(0);
        int last = Desks.chain(z, 0, 5, 512, 28);
        z.arbor(last, z.gear(5));
        z.mesh(last + 1, z.gear(8));
        z.dial(0, last + 2, 1);
        z.solve();
        Due.same("2 to the 255th by 5 to the 29th", Due.bit(z.back()), 1);
        Due.same("its highest word", z.result(0, 7), Integer.MIN_VALUE);
    }

    static void promise21() {
        GearDesk x = Desks.withGears(1000);
        for (int[] w : new int[][] {{-1, 0}, {2, 0}, {0, -1}, {0, 8}, {1, -1}, {1, 8}, {Integer.MIN_VALUE, 0}}) {
            Due.fails("result(" + w[0] + ", " + w[1] + ")", Due.INDEX, () -> x.result(w[0], w[1]));
        }
        Told.result("at first", x, 0, 1);
        x.crank(0);
        x.dial(0, Desks.chain(x, 0, 1000, 7, 9), 1);
        x.solve();
        x.back();
        int[] words = {0xe8000000, 0x9fd0803c, 0x33b2e3c, 0, 0, 0, 0, 0};
        for (int i = 0; i < 8; i++) {
            Due.same("7 to the ninth by 10 to the 27th, below, word " + i, x.result(1, i), words[i]);
            Due.same("7 to the ninth by 10 to the 27th, above, word " + i, x.result(0, i), i == 0 ? 40353607 : 0);
        }
        Due.fails("result(0, 8)", Due.INDEX, () -> x.result(0, 8));
    }

    static void promise22() {
        GearDesk x = new GearDesk();
        Due.same("clear() of nothing", x.clear(), 0);
        x.want(3, 2, 1, 8, 16);
        x.search(4);
        for (int teeth = 10; teeth < 15; teeth++) {
            x.gear(teeth);
        }
        x.mesh(0, 1);
        x.crank(0);
        x.solve();
        x.dial(2, 1, 10);
        x.position(2, 1, 3);
        Told.result("before clear()", x, 32, 33);
        Due.same("clear()", x.clear(), 5);
        Told.counts("cleared", x, 0, 0, 0, 0);
        Due.same("the task stays", x.count(4), 5);
        Told.result("the result stays", x, 32, 33);
        Due.fails("no crank", Due.STATE, x::solve);
        Due.fails("no gear", Due.INDEX, () -> x.speed(0, 0, 0));
        Due.fails("no dial", Due.INDEX, () -> x.position(2, 1, 1));
        Due.fails("no relation", Due.INDEX, () -> x.relation(0, 0));
        Due.same("the first gear again", x.gear(30), 0);
        x.gear(60);
        Due.fails("a new gear has no speed", Due.STATE, () -> x.speed(0, 0, 0));
        Due.same("none before it", x.dial(2, 0, 5), GearDesk.NONE);
        Due.same("no crank before it", x.crank(1), GearDesk.NONE);
        x.mesh(0, 1);
        x.solve();
        Told.speed("after clear()", x, 0, -2, 1);
        Due.same("the search goes on", Due.bit(x.search(5)), 1);
        Due.same("clear() again", x.clear(), 2);
        Due.same("the best train stays", x.tooth(0, 1), 8);
    }

    static void promise23() {
        GearDesk x = new GearDesk();
        for (int what : new int[] {-1, 5, Integer.MIN_VALUE, Integer.MAX_VALUE}) {
            Due.same("count(" + what + ")", x.count(what), GearDesk.NONE);
        }
        for (int what = 0; what < 5; what++) {
            Due.same("count(" + what + ") of a new desk", x.count(what), 0);
        }
        x.gear(10);
        x.gear(20);
        x.gear(30);
        x.mesh(0, 1);
        x.arbor(0, 1);
        x.dial(0, 2, 1);
        x.dial(11, 2, 1);
        x.dial(11, 1, 1);
        x.want(1, 1, 2, 8, 10);
        x.search(2);
        Told.counts("before solve()", x, 3, 2, 2, 0);
        Due.same("choices left", x.count(4), 4);
        x.crank(0);
        x.solve();
        Told.counts("after a clash", x, 3, 2, 2, 0);
        x.remove(1);
        x.solve();
        Told.counts("after solve()", x, 3, 1, 2, 2);
        x.gear(40);
        Told.counts("with a gear more", x, 4, 1, 2, 2);
        Due.same("NONE", GearDesk.NONE, -1);
    }
}
