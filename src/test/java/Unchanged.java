import java.util.EnumMap;
import java.util.Map;
import java.util.function.Supplier;

/**
 * Calls that change nothing. Whether one did can't be seen at once (the crank and the dials' gears are only told by
 * calls that change them), so a desk with the call is asked what a desk without it is asked. Every question gets a new
 * pair of desks, so that none is used for more than 512 calls.
 */
final class Unchanged {
    /** A call on a desk, a boolean answered as 1 or 0. */
    interface DeskCall {
        long on(GearDesk desk);
    }

    /** What a desk is asked. */
    private enum Question {
        TOLD, FIRST_PARTS, OTHER_PARTS, SPEEDS, HANDS, SEARCH, SOLVE, ROOM
    }

    private static final Map<Desks, Map<Question, String>> WITHOUT = new EnumMap<>(Desks.class);

    private Unchanged() {
    }

    static void throwing(Class<? extends RuntimeException> due, Desks desks, String what, DeskCall call) {
        check(due.getSimpleName(), desks, what, call);
    }

    static void answering(long due, Desks desks, String what, DeskCall call) {
        check(Long.toString(due), desks, what, call);
    }

    private static void check(String due, Desks desks, String what, DeskCall call) {
        GearDesk first = desks.make();
        Due.sameOutcome(desks + ": " + what, Due.outcome(() -> call.on(first)), due);
        sameAs(desks, what, () -> {
            GearDesk desk = desks.make();
            Due.outcome(() -> call.on(desk));
            return desk;
        });
    }

    /** A desk that was made in another way answers as one of these. */
    static void sameAs(Desks desks, String what, Supplier<GearDesk> made) {
        for (Question question : Question.values()) {
            Due.sameOutcome(desks + ": " + what + " and then " + question,
                    answers(made.get(), question), without(desks, question));
        }
    }

    private static String without(Desks desks, Question question) {
        return WITHOUT.computeIfAbsent(desks, d -> new EnumMap<>(Question.class))
                .computeIfAbsent(question, q -> answers(desks.make(), q));
    }

    private static String answers(GearDesk x, Question question) {
        StringBuilder to = new StringBuilder();
        switch (question) {
            case TOLD -> {
                tellCounts(x, to);
                tellResult(x, to);
                tellTrain(x, to);
            }
            case FIRST_PARTS -> tellParts(x, to, 0);
            case OTHER_PARTS -> tellParts(x, to, 2);
            case SPEEDS -> tellSpeeds(x, to);
            case HANDS -> tellHands(x, to);
            case SEARCH -> {
                tell(to, () -> Due.bit(x.search(1)));
                tellCounts(x, to);
                tell(to, () -> Due.bit(x.search(1000000)));
                tellTrain(x, to);
            }
            case SOLVE -> {
                tell(to, x::solve);
                tellSpeeds(x, to);
                tell(to, () -> x.crank(0));
            }
            default -> {
                tell(to, () -> x.gear(10));
                tell(to, () -> x.mesh(0, 1));
                tell(to, () -> x.remove(x.count(1) - 1));
                tell(to, x::clear);
            }
        }
        return to.toString();
    }

    private static void tell(StringBuilder to, Due.Call call) {
        to.append(Due.outcome(call)).append(' ');
    }

    private static void tellCounts(GearDesk x, StringBuilder to) {
        for (int what = 0; what < 5; what++) {
            int w = what;
            tell(to, () -> x.count(w));
        }
    }

    private static void tellResult(GearDesk x, StringBuilder to) {
        for (int i = 0; i < 8; i++) {
            int word = i;
            tell(to, () -> x.result(0, word));
            tell(to, () -> x.result(1, word));
        }
    }

    private static void tellTrain(GearDesk x, StringBuilder to) {
        for (int i = 0; i < 8; i++) {
            int stage = i / 2;
            int side = i % 2;
            tell(to, () -> x.tooth(stage, side));
        }
        tell(to, () -> x.error(0));
        tell(to, () -> x.error(1));
    }

    private static void tellParts(GearDesk x, StringBuilder to, int from) {
        int relations = x.count(1);
        for (int r = 0; r < relations; r++) {
            to.append(x.relation(r, from)).append(' ').append(x.relation(r, from + 1)).append(' ');
        }
    }

    private static void tellSpeeds(GearDesk x, StringBuilder to) {
        int gears = x.count(0);
        for (int g = 0; g < gears; g++) {
            int gear = g;
            tell(to, () -> x.speed(gear, 0, 0));
            tell(to, () -> x.speed(gear, 1, 0));
            tell(to, () -> x.speed(gear, 2, 0));
            tell(to, () -> x.speed(gear, 1, 7) ^ x.speed(gear, 2, 7));
        }
    }

    private static void tellHands(GearDesk x, StringBuilder to) {
        for (int k = 0; k < 12; k++) {
            int dial = k;
            tell(to, () -> x.position(dial, 5, 7));
            to.append(x.result(0, 0)).append(' ').append(x.result(1, 0)).append(' ');
            tell(to, () -> Due.bit(x.meet(dial, (dial + 1) % 12)));
            to.append(x.result(0, 0)).append(' ').append(x.result(1, 0)).append(' ');
        }
        tell(to, () -> Due.bit(x.back()));
        tellResult(x, to);
        for (int k = 0; k < 12; k++) {
            int dial = k;
            tell(to, () -> x.dial(dial, 0, 1));
        }
    }
}
