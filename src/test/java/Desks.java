import java.util.List;
import java.util.function.Consumer;

/** Desks to begin a test with, made anew each time, all with less than 200 calls. */
enum Desks {
    NEW {
        @Override
        GearDesk make() {
            return new GearDesk();
        }
    },

    /** 13 of 21 choices are left; gears 0 .. 3 have speeds, 4 and 5 have none, 6 came since, as did the crank 1. */
    BUSY {
        @Override
        GearDesk make() {
            return busy(x -> { });
        }
    },

    /** As BUSY, but no choice is left. */
    SEARCHED {
        @Override
        GearDesk make() {
            GearDesk x = BUSY.make();
            x.search(13);
            return x;
        }
    },

    /** As BUSY, but relation 5 clashes with relation 0. */
    CLASHING {
        @Override
        GearDesk make() {
            GearDesk x = BUSY.make();
            x.inner(0, 1);
            return x;
        }
    },

    /** 60 gears, all with speeds, 120 relations, 12 dials, one choice left. */
    FULL {
        @Override
        GearDesk make() {
            GearDesk x = new GearDesk();
            for (int g = 0; g < 60; g++) {
                x.gear(10 + g);
            }
            for (int r = 0; r < 120; r++) {
                int g = r % 59;
                if (g % 2 == 0) {
                    x.mesh(g, g + 1);
                } else {
                    x.arbor(g, g + 1);
                }
            }
            x.crank(30);
            x.solve();
            for (int k = 0; k < 12; k++) {
                x.dial(k, 5 * k, 10 + k);
            }
            x.position(1, 1, 7);
            x.want(235, 19, 2, 8, 120);
            x.search(6440);
            return x;
        }
    },

    /**
     * Gear 57 has the speed 2 to the 255th by 5 to the 29th, 58 stands still, 59 turns as fast as 57, the other way.
     * Dials 0, 1 and 2 have these, dial 3 the crank; the result is 1 by 3.
     */
    LONG_TOPS {
        @Override
        GearDesk make() {
            GearDesk x = withLongChain(512, 5, 8, 5);
            int opposite = x.gear(5);
            x.mesh(57, opposite);
            return withLongHands(x);
        }
    },

    /**
     * Gear 57 has the speed 5 to the 29th by 2 to the 255th, 58 stands still, 59 has -1 by 3. Dials 0, 1 and 2 have
     * these, dial 3 the crank; the result is 1 by 3.
     */
    LONG_BOTTOMS {
        @Override
        GearDesk make() {
            GearDesk x = withLongChain(5, 512, 5, 8);
            int third = x.gear(15);
            x.mesh(0, third);
            return withLongHands(x);
        }
    };

    abstract GearDesk make();

    /** BUSY, with calls of one's own between those that make it. */
    static GearDesk busy(Consumer<GearDesk> between) {
        List<Unchanged.DeskCall> calls = List.of(
                x -> x.gear(20), x -> x.gear(40), x -> x.gear(30), x -> x.gear(70), x -> x.gear(50), x -> x.gear(25),
                x -> x.want(7, 5, 2, 10, 15), x -> Due.bit(x.search(8)),
                x -> x.mesh(0, 1), x -> x.inner(0, 2), x -> x.planet(0, 3, 1), x -> x.arbor(4, 5),
                x -> x.crank(0), GearDesk::solve,
                x -> x.dial(0, 1, 60), x -> x.dial(5, 2, 12), x -> x.dial(10, 3, 100000), x -> x.dial(11, 4, 7),
                x -> x.position(10, 1, 9), x -> x.gear(33), x -> x.mesh(6, 0), x -> x.crank(1));
        GearDesk desk = new GearDesk();
        for (Unchanged.DeskCall call : calls) {
            call.on(desk);
            between.accept(desk);
        }
        return desk;
    }

    static GearDesk withGears(int... teeth) {
        GearDesk x = new GearDesk();
        for (int t : teeth) {
            x.gear(t);
        }
        return x;
    }

    /** From a gear on: drivers turn driven ones, each on the arbor of the next driver. The last driven one. */
    static int chain(GearDesk x, int from, int driver, int driven, int pairs) {
        int last = from;
        for (int i = 0; i < pairs; i++) {
            if (i > 0) {
                int next = x.gear(driver);
                x.arbor(last, next);
                last = next;
            }
            int turned = x.gear(driven);
            x.mesh(last, turned);
            last = turned;
        }
        return last;
    }

    /** Gears 0 .. 58: 28 pairs and one more behind the crank 0, then one that stands still. */
    private static GearDesk withLongChain(int driver, int driven, int lastDriver, int lastDriven) {
        GearDesk x = withGears(driver);
        x.crank(0);
        int last = chain(x, 0, driver, driven, 28);
        int a = x.gear(lastDriver);
        x.arbor(last, a);
        x.mesh(a, x.gear(lastDriven));
        // Of two wheels that mesh, sun and ring, the carrier has no speed.
        x.planet(0, 1, x.gear(10));
        return x;
    }

    private static GearDesk withLongHands(GearDesk x) {
        x.solve();
        for (int k = 0; k < 3; k++) {
            x.dial(k, 57 + k, 1);
        }
        x.dial(3, 0, 1);
        x.position(3, 1, 3);
        return x;
    }
}
