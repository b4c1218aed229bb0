import java.lang.reflect.InvocationTargetException;
import java.lang.reflect.Method;
import java.util.List;
import java.util.Random;

/** Calls without sense: whatever they are told, a desk answers or throws what the face tells, and nothing else. */
public final class WildCallsTest {
    private static final int[] EDGES = {
        Integer.MIN_VALUE, Integer.MIN_VALUE + 1, -1000000, -2, -1, 0, 1, 2, 3, 4, 5, 7, 8, 9, 10, 11, 12, 13, 20, 27,
        28, 30, 58, 59, 60, 61, 67, 68, 118, 119, 120, 121, 999, 1000, 1001, 99999, 100000, 100001, 1000000, 1000001,
        Integer.MAX_VALUE - 1, Integer.MAX_VALUE,
    };
    private static final int RUNS = 400;
    /** With what makes the desk no more than 512. */
    private static final int CALLS = 300;

    private WildCallsTest() {
    }

    public static void main(String[] args) throws IllegalAccessException {
        List<Method> methods = FaceTest.methods();
        Due.same("methods of the face", methods.size(), 22);
        for (int run = 0; run < RUNS && Due.wrongSoFar() < 20; run++) {
            Random random = new Random(run);
            GearDesk desk = Desks.values()[run % Desks.values().length].make();
            for (int i = 0; i < CALLS; i++) {
                call(desk, methods.get(random.nextInt(methods.size())), random);
            }
        }
        Due.end("WildCallsTest");
    }

    private static void call(GearDesk desk, Method method, Random random) throws IllegalAccessException {
        // A desk that is cleared too often would be an empty one most of the time.
        if (method.getName().equals("clear") && random.nextInt(20) > 0) {
            return;
        }
        Object[] arguments = new Object[method.getParameterCount()];
        for (int i = 0; i < arguments.length; i++) {
            arguments[i] = someNumber(random);
        }
        String outcome = "an answer";
        try {
            method.invoke(desk, arguments);
        } catch (InvocationTargetException e) {
            outcome = e.getCause().getClass().getSimpleName();
            for (Class<?> told : method.getExceptionTypes()) {
                outcome = told == e.getCause().getClass() ? "an answer" : outcome;
            }
        }
        Due.sameOutcome(method.getName() + java.util.Arrays.toString(arguments), outcome, "an answer");
    }

    private static int someNumber(Random random) {
        return switch (random.nextInt(8)) {
            case 0 -> EDGES[random.nextInt(EDGES.length)];
            case 1 -> random.nextInt();
            case 2 -> random.nextInt(120);
            case 3 -> random.nextInt(60);
            default -> random.nextInt(9);
        };
    }
}
