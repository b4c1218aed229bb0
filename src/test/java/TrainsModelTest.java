import java.math.BigInteger;
import java.util.Random;

/** Tasks small enough to look at every train there is, in every order of its wheels. */
public final class TrainsModelTest {
    private static final int TASKS_OF_A_DESK = 8;

    private final int num;
    private final int den;
    private final int stages;
    private final int low;
    private final int high;
    /** Driver, driven, driver, driven, .. */
    private final int[] train;
    private int[] best;
    private BigInteger bestGap;
    private BigInteger bestScale;
    private int bestTeeth;

    private TrainsModelTest(int num, int den, int stages, int low, int high) {
        this.num = num;
        this.den = den;
        this.stages = stages;
        this.low = low;
        this.high = high;
        train = new int[2 * stages];
    }

    public static void main(String[] args) {
        Random random = new Random(7);
        GearDesk kept = new GearDesk();
        for (int i = 0; i < 500 && Due.wrongSoFar() < 20; i++) {
            // One desk for several tasks, but not for more than 512 calls.
            kept = i % TASKS_OF_A_DESK == 0 ? new GearDesk() : kept;
            int stages = 1 + i % 4;
            int numbers = new int[] {40, 9, 4, 3}[stages - 1];
            int n = 1 + random.nextInt(numbers);
            int low = 8 + random.nextInt(113 - n);
            int mostDen = i % 3 == 0 ? 12 : i % 3 == 1 ? 1000 : Integer.MAX_VALUE;
            int den = 1 + random.nextInt(mostDen);
            long near = Math.round(den * (0.3 + 2.5 * random.nextDouble()));
            int num = (int) Math.max(1, Math.min(Integer.MAX_VALUE, near));
            new TrainsModelTest(num, den, stages, low, low + n - 1).compare(kept, random);
        }
        ties(random);
        largeTasks(new GearDesk());
        Due.end("TrainsModelTest");
    }

    /** Wanted ratios half way between two trains', so that one from below and one from above tie. */
    private static void ties(Random random) {
        GearDesk desk = new GearDesk();
        for (int i = 0; i < 200 && Due.wrongSoFar() < 20; i++) {
            desk = i % TASKS_OF_A_DESK == 0 ? new GearDesk() : desk;
            int low = 8 + random.nextInt(100);
            int high = low + 5;
            int a = low + random.nextInt(6);
            int b = low + random.nextInt(6);
            int c = low + random.nextInt(6);
            int d = low + random.nextInt(6);
            new TrainsModelTest(a * d + c * b, 2 * b * d, 1 + i % 2, low, high).compare(desk, random);
        }
    }

    /** Too many trains to look at; the wanted ratio is one that can be met, or one far outside. */
    private static void largeTasks(GearDesk desk) {
        for (int low = 8; low <= 61; low += 53) {
            Due.same("want", desk.want(97 * 89, 83 * 79, 3, low, low + 59), 37820);
            Due.same("search", Due.bit(desk.search(1000000)), 1);
            long top = (long) desk.tooth(0, 0) * desk.tooth(1, 0) * desk.tooth(2, 0);
            long bottom = (long) desk.tooth(0, 1) * desk.tooth(1, 1) * desk.tooth(2, 1);
            long gap = Math.abs(top * 83 * 79 - bottom * 97 * 89);
            long scale = bottom * 83 * 79;
            Due.same("error top by bottom", desk.error(0) * scale, desk.error(1) * gap);
        }
        desk.want(Integer.MAX_VALUE, 1, 4, 101, 120);
        desk.search(1000000);
        Due.same("far above, driver", desk.tooth(0, 0), 120);
        Due.same("far above, driven", desk.tooth(3, 1), 101);
        BigInteger gap = BigInteger.valueOf(101).pow(4).multiply(BigInteger.valueOf(Integer.MAX_VALUE))
                .subtract(BigInteger.valueOf(120).pow(4));
        Due.same("far above, error top", desk.error(0), gap.longValueExact());
        Due.same("far above, error bottom", desk.error(1), 101L * 101 * 101 * 101);
        desk.want(1, Integer.MAX_VALUE, 4, 101, 120);
        desk.search(1000000);
        Due.same("far below, driver", desk.tooth(0, 0), 101);
        Due.same("far below, driven", desk.tooth(3, 1), 120);
    }

    private void compare(GearDesk desk, Random random) {
        String task = "want(" + num + ", " + den + ", " + stages + ", " + low + ", " + high + ")";
        int total = desk.want(num, den, stages, low, high);
        Due.same(task, total, choices());
        int left = total;
        while (left > 0) {
            int fuel = 1 + random.nextInt(total);
            left = Math.max(0, left - fuel);
            Due.same(task + " search(" + fuel + ")", Due.bit(desk.search(fuel)), Due.bit(left == 0));
            Due.same(task + " count(4)", desk.count(4), left);
        }
        tryAll(0);
        for (int i = 0; i < train.length; i++) {
            Due.same(task + " tooth(" + i / 2 + ", " + i % 2 + ")", desk.tooth(i / 2, i % 2), best[i]);
        }
        BigInteger common = bestGap.gcd(bestScale);
        Due.same(task + " error(0)", desk.error(0), bestGap.divide(common).longValueExact());
        Due.same(task + " error(1)", desk.error(1), bestScale.divide(common).longValueExact());
    }

    private long choices() {
        long top = 1;
        long bottom = 1;
        for (int s = 0; s < stages; s++) {
            top *= high - low + 1 + s;
            bottom *= s + 1;
        }
        return top / bottom;
    }

    /** In the order of their lists: so of equal ones the first stays. */
    private void tryAll(int place) {
        if (place == train.length) {
            tryTrain();
            return;
        }
        for (int teeth = low; teeth <= high; teeth++) {
            train[place] = teeth;
            tryAll(place + 1);
        }
    }

    private void tryTrain() {
        long top = 1;
        long bottom = 1;
        int teeth = 0;
        for (int i = 0; i < train.length; i += 2) {
            top *= train[i];
            bottom *= train[i + 1];
            teeth += train[i] + train[i + 1];
        }
        BigInteger gap = BigInteger.valueOf(top).multiply(BigInteger.valueOf(den))
                .subtract(BigInteger.valueOf(bottom).multiply(BigInteger.valueOf(num))).abs();
        BigInteger scale = BigInteger.valueOf(bottom).multiply(BigInteger.valueOf(den));
        int order = best == null ? -1 : gap.multiply(bestScale).compareTo(bestGap.multiply(scale));
        if (order < 0 || order == 0 && teeth < bestTeeth) {
            best = train.clone();
            bestGap = gap;
            bestScale = scale;
            bestTeeth = teeth;
        }
    }
}
