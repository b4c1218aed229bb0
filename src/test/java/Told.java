import java.math.BigInteger;

/** What several calls tell together: a whole speed, the whole result and so on. */
final class Told {
    private Told() {
    }

    static void speed(String what, GearDesk x, int gear, int top, int bottom) {
        Due.same(what + ": sign", x.speed(gear, 0, 0), Integer.signum(top));
        Due.same(what + ": top", x.speed(gear, 1, 0), Math.abs(top));
        Due.same(what + ": bottom", x.speed(gear, 2, 0), bottom);
        for (int i = 1; i < 8; i++) {
            Due.same(what + ": top's word " + i, x.speed(gear, 1, i), 0);
            Due.same(what + ": bottom's word " + i, x.speed(gear, 2, i), 0);
        }
    }

    static void result(String what, GearDesk x, int top, int bottom) {
        Due.same(what + ": result's top", x.result(0, 0), top);
        Due.same(what + ": result's bottom", x.result(1, 0), bottom);
        for (int i = 1; i < 8; i++) {
            Due.same(what + ": result's top, word " + i, x.result(0, i), 0);
            Due.same(what + ": result's bottom, word " + i, x.result(1, i), 0);
        }
    }

    static void longResult(String what, GearDesk x, BigInteger top, BigInteger bottom) {
        for (int i = 0; i < 8; i++) {
            Due.same(what + ": result's top, word " + i, x.result(0, i), word(top, i));
            Due.same(what + ": result's bottom, word " + i, x.result(1, i), word(bottom, i));
        }
    }

    static void longSpeed(String what, GearDesk x, int gear, BigInteger top, BigInteger bottom) {
        Due.same(what + ": sign", x.speed(gear, 0, 0), top.signum());
        for (int i = 0; i < 8; i++) {
            Due.same(what + ": top's word " + i, x.speed(gear, 1, i), word(top.abs(), i));
            Due.same(what + ": bottom's word " + i, x.speed(gear, 2, i), word(bottom, i));
        }
    }

    private static int word(BigInteger number, int i) {
        return number.shiftRight(32 * i).intValue();
    }

    static void counts(String what, GearDesk x, int gears, int relations, int dials, int speeds) {
        Due.same(what + ": gears", x.count(0), gears);
        Due.same(what + ": relations", x.count(1), relations);
        Due.same(what + ": dials", x.count(2), dials);
        Due.same(what + ": speeds", x.count(3), speeds);
    }

    static void relation(String what, GearDesk x, int relation, int... parts) {
        for (int i = 0; i < 4; i++) {
            Due.same(what + ": part " + i, x.relation(relation, i), parts[i]);
        }
    }

    /** Driver, driven, driver, driven, .. */
    static void train(GearDesk x, int... wheels) {
        for (int i = 0; i < wheels.length; i++) {
            Due.same("tooth(" + i / 2 + ", " + i % 2 + ")", x.tooth(i / 2, i % 2), wheels[i]);
        }
    }

    static void error(GearDesk x, long top, long bottom) {
        Due.same("error(0)", x.error(0), top);
        Due.same("error(1)", x.error(1), bottom);
    }
}
