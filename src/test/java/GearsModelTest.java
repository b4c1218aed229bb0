import java.math.BigInteger;
import java.util.Random;

/** Runs of calls on the desk and on the model, with every answer compared; the seeds are fixed. */
public final class GearsModelTest {
    /** What later calls answer is free. */
    private static final int MOST_CALLS = 512;

    private final Random random;
    private final GearDesk desk = new GearDesk();
    private final DeskModel model = new DeskModel();
    private final String name;
    private int calls;

    private GearsModelTest(String name, long seed) {
        this.name = name + " " + seed;
        random = new Random(seed);
    }

    public static void main(String[] args) {
        for (int seed = 0; seed < 1000 && Due.wrongSoFar() < 20; seed++) {
            new GearsModelTest("mixed run", seed).mixedRun();
        }
        for (int seed = 0; seed < 240 && Due.wrongSoFar() < 20; seed++) {
            new GearsModelTest("long chain", seed).longChain(46 + seed % 15, seed % 2 == 0);
        }
        for (int seed = 0; seed < 96 && Due.wrongSoFar() < 20; seed++) {
            new GearsModelTest("planets", seed).manyPlanets(12 + seed / 2);
        }
        Due.end("GearsModelTest");
    }

    private void both(String call, Due.Call onDesk, Due.Call onModel) {
        if (calls == MOST_CALLS) {
            return;
        }
        calls++;
        Due.sameOutcome(name + ": " + call, Due.outcome(onDesk), Due.outcome(onModel));
    }

    private int upTo(int most) {
        return random.nextInt(most + 1);
    }

    /** Mostly a gear, now and then none. */
    private int someGear() {
        return random.nextInt(25) == 0 ? random.nextInt(80) - 10 : random.nextInt(Math.max(1, model.teeth.size()));
    }

    private void gear(int teeth) {
        both("gear(" + teeth + ")", () -> desk.gear(teeth), () -> model.gear(teeth));
    }

    private void relate(int kind, int a, int b, int c) {
        String told = "(" + a + ", " + b + (kind == 3 ? ", " + c : "") + ")";
        switch (kind) {
            case 0 -> both("mesh" + told, () -> desk.mesh(a, b), () -> model.relate(0, a, b));
            case 1 -> both("inner" + told, () -> desk.inner(a, b), () -> model.relate(1, a, b));
            case 2 -> both("arbor" + told, () -> desk.arbor(a, b), () -> model.relate(2, a, b));
            default -> both("planet" + told, () -> desk.planet(a, b, c), () -> model.relate(3, a, b, c));
        }
    }

    private void crank(int g) {
        both("crank(" + g + ")", () -> desk.crank(g), () -> model.crank(g));
    }

    private void solve() {
        both("solve()", desk::solve, model::solve);
    }

    private void dial(int k, int g, int divisions) {
        both("dial(" + k + ", " + g + ", " + divisions + ")",
                () -> desk.dial(k, g, divisions), () -> model.dial(k, g, divisions));
    }

    private void position(int k, int num, int den) {
        both("position(" + k + ", " + num + ", " + den + ")",
                () -> desk.position(k, num, den), () -> model.position(k, num, den));
    }

    private void meet(int k, int l) {
        both("meet(" + k + ", " + l + ")", () -> Due.bit(desk.meet(k, l)), () -> Due.bit(model.meet(k, l)));
    }

    private void back() {
        both("back()", () -> Due.bit(desk.back()), () -> Due.bit(model.back()));
    }

    /** The lowest word, the highest and any: all sixteen each time would be too many calls. */
    private int[] someWords() {
        return new int[] {0, random.nextInt(8), 7};
    }

    private void result() {
        for (int w : someWords()) {
            both("result(0, " + w + ")", () -> desk.result(0, w), () -> model.result(0, w));
            both("result(1, " + w + ")", () -> desk.result(1, w), () -> model.result(1, w));
        }
    }

    private void speed(int g) {
        both("speed(" + g + ", 0, 0)", () -> desk.speed(g, 0, 0), () -> model.speed(g, 0, 0));
        for (int w : someWords()) {
            both("speed(" + g + ", 1, " + w + ")", () -> desk.speed(g, 1, w), () -> model.speed(g, 1, w));
            both("speed(" + g + ", 2, " + w + ")", () -> desk.speed(g, 2, w), () -> model.speed(g, 2, w));
        }
    }

    private void counts() {
        for (int what = -1; what <= 5; what++) {
            int w = what;
            both("count(" + w + ")", () -> desk.count(w), () -> model.count(w));
        }
    }

    private void mixedRun() {
        int gears = 2 + upTo(10);
        int teeth = random.nextBoolean() ? 1000 : 16;
        for (int i = 0; i < gears; i++) {
            gear(4 + random.nextInt(teeth - 3));
        }
        for (int call = 0; call < 150; call++) {
            mixedCall(teeth);
        }
        counts();
        for (int g = 0; g < model.teeth.size(); g++) {
            speed(g);
        }
    }

    private void mixedCall(int teeth) {
        int a = someGear();
        int b = someGear();
        int c = someGear();
        int k = random.nextInt(20) == 0 ? random.nextInt(40) - 20 : random.nextInt(5);
        int l = random.nextInt(20) == 0 ? random.nextInt(40) - 20 : random.nextInt(5);
        switch (random.nextInt(22)) {
            case 0 -> gear(random.nextInt(4) == 0 ? random.nextInt(1200) - 50 : 4 + random.nextInt(teeth - 3));
            case 1, 2, 3 -> relate(random.nextInt(3), a, b, c);
            case 4, 5 -> relate(3, a, b, c);
            case 6, 7 -> {
                int r = random.nextInt(10) == 0 ? random.nextInt(150) - 10 : random.nextInt(model.relations.size() + 1);
                both("remove(" + r + ")", () -> desk.remove(r), () -> model.remove(r));
            }
            case 8 -> {
                int r = random.nextInt(model.relations.size() + 2) - 1;
                int what = random.nextInt(6) - 1;
                both("relation(" + r + ", " + what + ")", () -> desk.relation(r, what), () -> model.relation(r, what));
            }
            case 9 -> crank(a);
            case 10, 11, 12 -> solve();
            case 13 -> {
                int part = random.nextInt(5) - 1;
                int i = part == 0 ? random.nextInt(3) - 1 : random.nextInt(10) - 1;
                both("speed(" + a + ", " + part + ", " + i + ")",
                        () -> desk.speed(a, part, i), () -> model.speed(a, part, i));
            }
            case 14 -> dial(k, a, random.nextInt(6) == 0 ? random.nextInt() % 200000 : 1 + random.nextInt(1000));
            case 15, 16 -> {
                position(k, random.nextInt(8) == 0 ? random.nextInt() : random.nextInt(400) - 200,
                        random.nextInt(8) == 0 ? random.nextInt() : random.nextInt(30));
                result();
            }
            case 17, 18 -> {
                meet(k, l);
                result();
            }
            case 19, 20 -> {
                back();
                result();
            }
            default -> {
                counts();
                if (random.nextInt(25) == 0) {
                    both("clear()", desk::clear, model::clear);
                }
            }
        }
    }

    /** Speeds about as long as a fraction may be, and beyond. */
    private void longChain(int gears, boolean longTops) {
        for (int g = 0; g < gears; g++) {
            BigInteger from = BigInteger.valueOf(700 + random.nextInt(290));
            gear((g % 2 == 0) == longTops ? from.nextProbablePrime().intValue() : 4 + random.nextInt(200));
        }
        for (int g = 0; g + 1 < gears; g++) {
            relate(g % 2 == 0 ? 0 : 2, g, g + 1, 0);
        }
        for (int turn = 0; turn < 3; turn++) {
            crank(random.nextBoolean() ? random.nextInt(3) : random.nextInt(gears));
            solve();
            for (int i = 0; i < 10; i++) {
                speed(random.nextInt(gears));
            }
            hands(gears);
            int r = random.nextInt(model.relations.size());
            both("remove(" + r + ")", () -> desk.remove(r), () -> model.remove(r));
            relate(random.nextInt(4), random.nextInt(gears), random.nextInt(gears), random.nextInt(gears));
        }
    }

    private void hands(int gears) {
        for (int k = 0; k < 12; k++) {
            int g = random.nextInt(gears);
            dial(k, model.speeds[g] == null ? model.relation(0, 1) : g, 1 + random.nextInt(100000));
        }
        for (int i = 0; i < 4; i++) {
            int k = random.nextInt(12);
            position(k, random.nextInt(), 1 + random.nextInt(Integer.MAX_VALUE - 1));
            result();
            position(k, Integer.MIN_VALUE, Integer.MAX_VALUE);
            result();
            meet(k, random.nextInt(12));
            result();
        }
        back();
        result();
    }

    /** The longest numbers inside: each gear in a planetary set with two before it. */
    private void manyPlanets(int gears) {
        for (int g = 0; g < gears; g++) {
            gear(900 + random.nextInt(101));
        }
        crank(random.nextInt(gears));
        relate(0, 0, 1, 0);
        for (int g = 2; g < gears; g++) {
            planetInAnyOrder(g, g - 1, random.nextInt(g - 1));
            if (g % 5 == 0) {
                solve();
                speed(random.nextInt(g));
            }
        }
        solve();
        for (int i = 0; i < 10; i++) {
            relate(random.nextInt(4), random.nextInt(gears), random.nextInt(gears), random.nextInt(gears));
            solve();
        }
        counts();
        for (int g = 0; g < gears; g++) {
            speed(g);
        }
    }

    private void planetInAnyOrder(int a, int b, int c) {
        switch (random.nextInt(3)) {
            case 0 -> relate(3, a, b, c);
            case 1 -> relate(3, b, a, c);
            default -> relate(3, b, c, a);
        }
    }
}
