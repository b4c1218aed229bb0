import java.io.IOException;
import java.lang.reflect.Constructor;
import java.lang.reflect.Field;
import java.lang.reflect.Method;
import java.lang.reflect.Modifier;
import java.nio.file.Files;
import java.nio.file.Path;
import java.util.ArrayList;
import java.util.Comparator;
import java.util.List;
import java.util.Map;
import java.util.TreeMap;
import java.util.TreeSet;
import java.util.regex.Pattern;

/** The public face as the document tells it, and the rules of LANGUAGE.md that a machine can look at. */
public final class FaceTest {
    private static final String[] FACE = {
        "int want(int,int,int,int,int) Argument",
        "boolean search(int) Argument State",
        "int tooth(int,int) State Index",
        "long error(int) State Index",
        "int quotient(int,int,int) Argument Index",
        "int gear(int) Argument State",
        "int mesh(int,int) Index Argument State",
        "int inner(int,int) Index Argument State",
        "int arbor(int,int) Index Argument State",
        "int planet(int,int,int) Index Argument State",
        "int remove(int) Index",
        "int relation(int,int) Index",
        "int crank(int) Index",
        "int solve() State Unsupported",
        "int speed(int,int,int) Index State",
        "int dial(int,int,int) Index Argument",
        "int position(int,int,int) Index Argument State Unsupported",
        "boolean meet(int,int) Index Unsupported",
        "boolean back() Unsupported",
        "int result(int,int) Index",
        "int clear()",
        "int count(int)",
    };
    private static final Map<String, String> NAMES = Map.of("IllegalArgumentException", "Argument",
            "IllegalStateException", "State", "IndexOutOfBoundsException", "Index",
            "UnsupportedOperationException", "Unsupported");
    /** Rules 2, 4, 5, 6 and 13: what the source may not have anywhere. */
    private static final String[] FORBIDDEN = {
        "::", "(?m)^(?!\\s*(case|default)\\b).*->", "\\bstatic \\{", "\\bpackage\\b",
        "\\bsynchronized\\b", "\\bassert\\b", "\\bfinally\\b",
        "\\w+Exact\\b", "\\bSystem\\.(?!arraycopy\\b)", "\\bArrays\\.(?!fill\\b|copyOf\\b|copyOfRange\\b)",
        "\\bRandom\\b", "\\brandom\\b", "\\bThread\\b", "\\bhashCode\\b", "\\bprintStackTrace\\b", "\\bgetMessage\\b",
        "(?m)^import (?!java\\.util\\.(Arrays|ArrayList|List|Iterator|NoSuchElementException);)",
        "\\bjava\\.(?!util\\.)",
        "\\bthrow (?!new \\w+\\((\"[^\"]*\")?\\);)",
        "\\bthrow new (?!(IllegalState|IllegalArgument|IndexOutOfBounds|Arithmetic|UnsupportedOperation|NoSuchElement"
                + "|Runtime)Exception\\()",
    };
    private static final int LONGEST_METHOD = 62;

    private FaceTest() {
    }

    public static void main(String[] args) throws IOException {
        face();
        members();
        source(Path.of(args.length > 0 ? args[0] : "src/main/java/GearDesk.java"));
        Due.end("FaceTest");
    }

    /** The methods of the face by their names. */
    static List<Method> methods() {
        List<Method> methods = new ArrayList<>();
        for (Method m : GearDesk.class.getMethods()) {
            if (m.getDeclaringClass() == GearDesk.class) {
                methods.add(m);
            }
        }
        methods.sort(Comparator.comparing(Method::getName));
        return methods;
    }

    private static void face() {
        TreeSet<String> due = new TreeSet<>();
        for (String line : FACE) {
            due.add(line);
        }
        TreeSet<String> got = new TreeSet<>();
        for (Method m : GearDesk.class.getDeclaredMethods()) {
            if (!Modifier.isPrivate(m.getModifiers())) {
                got.add(told(m));
            }
        }
        Due.sameOutcome("the methods of the face", got.toString(), due.toString());
        Constructor<?>[] constructors = GearDesk.class.getDeclaredConstructors();
        Due.same("constructors", constructors.length, 1);
        Due.same("its parameters", constructors[0].getParameterCount(), 0);
        Due.same("it is public", Due.bit(Modifier.isPublic(constructors[0].getModifiers())), 1);
        Due.same("the class is public and final",
                GearDesk.class.getModifiers() & (Modifier.PUBLIC | Modifier.FINAL), Modifier.PUBLIC | Modifier.FINAL);
    }

    private static String told(Method m) {
        StringBuilder text = new StringBuilder(m.getReturnType() + " " + m.getName() + "(");
        for (Class<?> p : m.getParameterTypes()) {
            text.append(text.charAt(text.length() - 1) == '(' ? "" : ",").append(p);
        }
        text.append(")");
        for (Class<?> e : m.getExceptionTypes()) {
            text.append(" ").append(NAMES.getOrDefault(e.getSimpleName(), e.getSimpleName()));
        }
        return text.toString();
    }

    private static void members() {
        Map<String, Integer> names = new TreeMap<>();
        for (Method m : GearDesk.class.getDeclaredMethods()) {
            names.merge(m.getName(), 1, Integer::sum);
        }
        for (Map.Entry<String, Integer> name : names.entrySet()) {
            Due.same("methods by the name of " + name.getKey(), name.getValue(), 1);
        }
        for (Field f : GearDesk.class.getDeclaredFields()) {
            boolean isNone = f.getName().equals("NONE") && Modifier.isPublic(f.getModifiers());
            Due.same(f.getName() + " is private", Due.bit(isNone || Modifier.isPrivate(f.getModifiers())), 1);
        }
        Class<?>[] inside = GearDesk.class.getDeclaredClasses();
        Due.same("at most twelve classes", Due.bit(inside.length + 1 <= 12), 1);
        for (Class<?> c : inside) {
            Due.same(c + " is static", Due.bit(Modifier.isStatic(c.getModifiers())), 1);
            Due.same(c + " is not public", Due.bit(Modifier.isPublic(c.getModifiers())), 0);
            dueFewFields(c);
            for (Method m : c.getDeclaredMethods()) {
                Due.same(c + " has no method " + m.getName() + " of the face", Due.bit(isOfFace(m.getName())), 0);
                Due.same(m + " has at most seven parameters", Due.bit(m.getParameterCount() <= 7), 1);
            }
        }
        dueFewFields(GearDesk.class);
    }

    private static boolean isOfFace(String name) {
        for (String line : FACE) {
            if (line.contains(" " + name + "(")) {
                return true;
            }
        }
        return false;
    }

    private static void dueFewFields(Class<?> c) {
        int fields = 0;
        for (Field f : c.getDeclaredFields()) {
            boolean isStatic = Modifier.isStatic(f.getModifiers());
            fields += isStatic ? 0 : 1;
            Due.same(f + " is final if it is static", Due.bit(isStatic && !Modifier.isFinal(f.getModifiers())), 0);
        }
        Due.same(c + " has at most twenty fields", Due.bit(fields <= 20), 1);
    }

    private static void source(Path file) throws IOException {
        String text = Files.readString(file);
        String code = text.replaceAll("(?s)/\\*.*?\\*/", "").replaceAll("//.*", "");
        for (String word : FORBIDDEN) {
            Due.same("the source has " + word, Due.bit(Pattern.compile(word).matcher(code).find()), 0);
        }
        for (char c : text.toCharArray()) {
            if (c > 255) {
                Due.same("a character beyond 255", c, 0);
            }
        }
        shortMethods(code.split("\n"));
    }

    /** Rules 11 and 6: no method longer than some sixty lines, no throw in a constructor. */
    private static void shortMethods(String[] lines) {
        Pattern head = Pattern.compile("( {4}| {8})\\S.*\\) (throws [\\w, ]+)?\\{");
        Pattern constructor = Pattern.compile(" +(public |private )?[A-Z]\\w*\\(.*");
        for (int i = 0; i < lines.length; i++) {
            if (!head.matcher(lines[i]).matches()) {
                continue;
            }
            String end = lines[i].replaceAll("\\S.*", "") + "}";
            int length = 1;
            while (i + length < lines.length && !lines[i + length].equals(end)) {
                boolean isThrow = lines[i + length].contains("throw new");
                Due.same("a throw in a constructor", Due.bit(isThrow && constructor.matcher(lines[i]).matches()), 0);
                length++;
            }
            Due.same(lines[i].trim() + " is short", Due.bit(length < LONGEST_METHOD), 1);
        }
    }
}
