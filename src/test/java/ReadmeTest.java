import java.io.IOException;
import java.lang.reflect.InvocationTargetException;
import java.lang.reflect.Method;
import java.nio.file.Files;
import java.nio.file.Path;
import java.util.ArrayList;
import java.util.HashMap;
import java.util.List;
import java.util.Map;
import java.util.regex.Matcher;
import java.util.regex.Pattern;

/** README.md tells every call of the face with what it throws, and its example answers as it says. */
public final class ReadmeTest {
    private static final Path README = Path.of("README.md");
    private static final Pattern EXCEPTION = Pattern.compile("\\w+Exception");
    /** Perhaps a name for the answer, a call of the desk, and the answer that the comment begins with. */
    private static final Pattern EXAMPLE =
            Pattern.compile("(?:int (\\w+) = )?desk\\.(\\w+)\\((.*)\\); *// ([-\\w]+): .*");

    private ReadmeTest() {
    }

    public static void main(String[] args) throws IOException, ReflectiveOperationException {
        String text = Files.readString(README);
        calls(text);
        sentences(text.replaceAll("\\s+", " "));
        example(text);
        Due.end("ReadmeTest");
    }

    private static void calls(String text) {
        Map<String, String> entries = new HashMap<>();
        Matcher entry = Pattern.compile("(?m)^- `(\\w+ \\w+\\([\\w ,]*\\))`:((?s:.*?))(?=^- |^$)").matcher(text);
        while (entry.find()) {
            entries.put(entry.group(1).replaceAll("(int) \\w+(?=[,)])", "$1"), entry.group(2));
        }
        int told = 0;
        for (Method m : FaceTest.methods()) {
            String head = m.getReturnType() + " " + m.getName() + "(" + parameters(m) + ")";
            Due.same("README.md tells " + head, Due.bit(entries.containsKey(head)), 1);
            Due.sameOutcome("what README.md tells that " + head + " throws",
                    exceptionsIn(entries.getOrDefault(head, "")).toString(), exceptionsOf(m).toString());
            told++;
        }
        Due.same("calls that README.md tells", entries.size(), told);
    }

    private static String parameters(Method m) {
        List<String> types = new ArrayList<>();
        for (Class<?> type : m.getParameterTypes()) {
            types.add(type.toString());
        }
        return String.join(", ", types);
    }

    private static List<String> exceptionsOf(Method m) {
        List<String> names = new ArrayList<>();
        for (Class<?> type : m.getExceptionTypes()) {
            names.add(type.getSimpleName());
        }
        return names;
    }

    /** Each once, in the order in which they are named first. */
    private static List<String> exceptionsIn(String words) {
        List<String> names = new ArrayList<>();
        Matcher name = EXCEPTION.matcher(words);
        while (name.find()) {
            if (!names.contains(name.group())) {
                names.add(name.group());
            }
        }
        return names;
    }

    private static void sentences(String text) {
        String[] due = {
            "An object is used for at most 512 calls after it has been made",
            "A call that throws changes nothing.",
            "Of several exceptions the first one told is thrown",
            "`NONE = -1`: Nothing there.",
            "`GearDesk()`: No task, no gears, no dials.",
            ".ci/run",
        };
        for (String words : due) {
            Due.same("README.md says: " + words, Due.bit(text.contains(words)), 1);
        }
    }

    private static void example(String text) throws ReflectiveOperationException {
        Matcher block = Pattern.compile("(?s)```java\n(.*?)```").matcher(text);
        Due.same("README.md has an example", Due.bit(block.find()), 1);
        GearDesk desk = new GearDesk();
        Map<String, Integer> names = new HashMap<>();
        for (String line : block.group(1).split("\n")) {
            if (line.contains("desk.")) {
                exampleCall(desk, line, names);
            }
        }
    }

    private static void exampleCall(GearDesk desk, String line, Map<String, Integer> names)
            throws ReflectiveOperationException {
        Matcher call = EXAMPLE.matcher(line);
        if (!call.matches()) {
            Due.sameOutcome("the example's line " + line, "no call", "a call with its answer");
            return;
        }
        String answer = outcome(desk, call.group(2), call.group(3), names);
        Due.sameOutcome("the example's line " + line, answer, call.group(4).replace("NONE", "-1"));
        if (call.group(1) != null) {
            names.put(call.group(1), Integer.valueOf(answer));
        }
    }

    private static String outcome(GearDesk desk, String name, String told, Map<String, Integer> names)
            throws ReflectiveOperationException {
        String[] words = told.isEmpty() ? new String[0] : told.split(", ");
        Object[] arguments = new Object[words.length];
        Class<?>[] types = new Class<?>[words.length];
        for (int i = 0; i < words.length; i++) {
            arguments[i] = names.containsKey(words[i]) ? names.get(words[i]) : Integer.valueOf(words[i]);
            types[i] = int.class;
        }
        try {
            return GearDesk.class.getMethod(name, types).invoke(desk, arguments).toString();
        } catch (InvocationTargetException e) {
            return e.getCause().getClass().getSimpleName();
        }
    }
}
