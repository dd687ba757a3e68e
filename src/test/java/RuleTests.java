import java.lang.reflect.Array;
import java.lang.reflect.Constructor;
import java.lang.reflect.Field;
import java.lang.reflect.Method;
import java.lang.reflect.Modifier;
import java.nio.charset.StandardCharsets;
import java.nio.file.Files;
import java.nio.file.Path;
import java.util.IdentityHashMap;
import java.util.Set;
import java.util.TreeSet;
import java.util.regex.Matcher;
import java.util.regex.Pattern;

/** What LANGUAGE.md asks of the source and what the room allows, as far as a test can tell. */
public final class RuleTests {
    private static final Path SOURCE = Path.of("src/main/java/WatchedHalls.java");
    private static final String[] FACE = {
        "hall", "cell", "kind", "law", "range", "far", "sees", "view", "best", "picture", "about", "seen", "from",
        "fewest", "post", "tour", "tourStep", "step", "wipe", "closed", "shift", "where", "watched", "period",
        "gap", "worst", "arrange", "theft", "theftStep", "hours", "turn", "mirror", "count"};
    private static final int MOST_ELEMENTS = 20000;

    private static int wrong = 0;

    private static void check(boolean holds, String rule) {
        if (!holds) {
            wrong++;
            System.out.println("broken: " + rule);
        }
    }

    public static void main(String[] args) throws Exception {
        face();
        classesInside();
        words();
        methodLengths();
        room();
        System.out.println(wrong == 0 ? "RuleTests: all rules hold" : "RuleTests: " + wrong + " rules are broken");
        if (wrong != 0) System.exit(1);
    }

    private static void face() {
        Class<?> c = WatchedHalls.class;
        check(Modifier.isPublic(c.getModifiers()) && Modifier.isFinal(c.getModifiers()), "1: public final class");
        Set<String> due = new TreeSet<>(Set.of(FACE)), open = new TreeSet<>();
        for (Method m : c.getDeclaredMethods()) {
            boolean isPublic = Modifier.isPublic(m.getModifiers());
            check(isPublic || Modifier.isPrivate(m.getModifiers()), "1: " + m);
            check(!isPublic || m.getReturnType() == int.class && !Modifier.isStatic(m.getModifiers()), "1: " + m);
            check(isPublic || !due.contains(m.getName()), "1: a private method bears a public name: " + m);
            if (isPublic) open.add(m.getName());
        }
        check(open.equals(due), "1: public methods " + open);
        Set<String> constants = new TreeSet<>();
        for (Field f : c.getDeclaredFields()) {
            boolean isPublic = Modifier.isPublic(f.getModifiers());
            check(isPublic || Modifier.isPrivate(f.getModifiers()), "1: " + f);
            check(!Modifier.isStatic(f.getModifiers()) || Modifier.isFinal(f.getModifiers()), "5: " + f);
            if (isPublic) constants.add(f.getName());
        }
        check(constants.equals(Set.of("UNKNOWN", "OUTSIDE", "STATE", "FULL", "NONE")), "1: constants " + constants);
        Constructor<?>[] made = c.getDeclaredConstructors();
        check(made.length == 1 && Modifier.isPublic(made[0].getModifiers()), "1: one public constructor");
    }

    private static void classesInside() {
        Class<?>[] inside = WatchedHalls.class.getDeclaredClasses();
        check(inside.length <= 11, "11: some twelve classes at most");
        for (Class<?> c : inside) {
            check(Modifier.isStatic(c.getModifiers()), "2: not static: " + c);
            check(!Modifier.isPublic(c.getModifiers()) && !Modifier.isProtected(c.getModifiers()), "1: " + c);
            for (Method m : c.getDeclaredMethods())
                check(!Set.of(FACE).contains(m.getName()), "1: a method inside bears a public name: " + m);
            int fields = 0;
            for (Field f : c.getDeclaredFields()) {
                if (!Modifier.isStatic(f.getModifiers())) fields++;
                else check(Modifier.isFinal(f.getModifiers()), "5: " + f);
            }
            check(fields <= 20, "11: fields of " + c);
        }
    }

    private static void words() throws Exception {
        byte[] bytes = Files.readAllBytes(SOURCE);
        for (byte b : bytes) check(b == '\n' || b >= 32 && b < 127, "3: the sign " + b);
        String code = withoutComments(new String(bytes, StandardCharsets.US_ASCII));
        String[] never = {
            "\\bthrow\\b", "\\btry\\b", "\\bcatch\\b", "\\bsynchronized\\b", "\\bassert\\b", "->", "::", "Exact\\(",
            "\\bpackage\\b", "\\bRandom\\b", "\\bThread\\b", "\\bSystem\\.(?!arraycopy)", "\\bdouble\\b", "\\bfloat\\b",
            "\\bprotected\\b", "\\bStream\\b", "\\bstatic \\{", "\\[\\]\\[\\]\\[\\]", "\\bObject\\b"};
        for (String n : never) check(!Pattern.compile(n).matcher(code).find(), "forbidden: " + n);
        Matcher imports = Pattern.compile("import ([\\w.*]+);").matcher(code);
        while (imports.find()) check(imports.group(1).equals("java.util.Arrays"), "4: " + imports.group());
        Matcher library = Pattern.compile("\\b(Arrays|Math|Long|Integer)\\.(\\w+)").matcher(code);
        Set<String> listed = Set.of("fill", "abs", "max", "min", "bitCount", "floorMod");
        while (library.find()) check(listed.contains(library.group(2)), "4: " + library.group());
    }

    private static String withoutComments(String code) {
        return code.replaceAll("(?s)/\\*.*?\\*/", "").replaceAll("//[^\n]*", "");
    }

    private static void methodLengths() throws Exception {
        String[] lines = Files.readString(SOURCE).split("\n");
        Pattern head = Pattern.compile("^( {4}| {8})(?! |if |for |while |switch )[\\w<>\\[\\] ]+\\(([^)]*)\\) \\{$");
        for (int i = 0; i < lines.length; i++) {
            check(lines[i].length() <= 110, "a long line: " + (i + 1));
            Matcher m = head.matcher(lines[i]);
            if (!m.matches()) continue;
            int end = i;
            while (end < lines.length && !lines[end].equals(m.group(1) + "}")) end++;
            check(end - i < 60, "11: a long method: " + lines[i].trim());
            check(m.group(2).split(",").length <= 7, "11: parameters: " + lines[i].trim());
        }
    }

    /** Calls make nothing, so what the constructor makes is all that an object takes of the room. */
    private static void room() throws Exception {
        IdentityHashMap<Object, Object> known = new IdentityHashMap<>();
        WatchedHalls x = new WatchedHalls();
        int made = weigh(x, known);
        check(made <= MOST_ELEMENTS, "room: " + made + " fields and elements");
        check(known.size() <= 60, "room: " + known.size() + " objects and arrays");
        check(!Pattern.compile("\\bnew\\b").matcher(callsOf(Files.readString(SOURCE))).find(), "room: a call makes an object");
    }

    /** The methods of the face: none of their lines, nor of those behind them, may hold 'new'. */
    private static String callsOf(String source) {
        StringBuilder rest = new StringBuilder();
        boolean inConstructor = false;
        for (String line : withoutComments(source).split("\n")) {
            if (line.equals("    public WatchedHalls() {")) inConstructor = true;
            if (!inConstructor && !line.contains("private final")) rest.append(line).append('\n');
            if (line.equals("    }")) inConstructor = false;
        }
        return rest.toString();
    }

    private static int weigh(Object o, IdentityHashMap<Object, Object> known) throws Exception {
        if (o == null || known.put(o, o) != null) return 0;
        if (o.getClass().isArray()) return Array.getLength(o);
        int many = 0;
        for (Field f : o.getClass().getDeclaredFields()) {
            if (Modifier.isStatic(f.getModifiers())) continue;
            many++;
            if (f.getType().isPrimitive()) continue;
            f.setAccessible(true);
            many += weigh(f.get(o), known);
        }
        return many;
    }
}
