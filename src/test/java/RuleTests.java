import java.lang.management.ManagementFactory;
import java.lang.reflect.Constructor;
import java.lang.reflect.Field;
import java.lang.reflect.Method;
import java.lang.reflect.Modifier;
import java.nio.charset.StandardCharsets;
import java.nio.file.Files;
import java.nio.file.Path;
import java.util.Arrays;
import java.util.HashSet;
import java.util.LinkedHashMap;
import java.util.List;
import java.util.Map;
import java.util.Set;
import java.util.TreeSet;
import java.util.regex.Matcher;
import java.util.regex.Pattern;

/**
 * What LANGUAGE.md asks of the source, rule by rule, as far as a test can tell, and that a run of any
 * one call stays in the room. What the rules leave free is left free here.
 */
public final class RuleTests {
    private static final Path SOURCE = Path.of("src/main/java/WatchedHalls.java");
    private static final String[] FACE = {
        "hall 2", "cell 2", "kind 1", "law 1", "range 1", "far 2", "sees 2", "view 1", "best 0", "picture 2",
        "about 2", "seen 2", "from 1", "fewest 0", "post 1", "tour 1", "tourStep 2", "step 2", "wipe 1",
        "closed 1", "shift 2", "where 2", "watched 2", "period 0", "gap 1", "worst 0", "arrange 0", "theft 3",
        "theftStep 4", "hours 2", "turn 0", "mirror 0", "count 1"};
    private static final Set<String> LIBRARY = Set.of(
        "String", "StringBuilder", "Integer", "Long", "Math", "System", "Arrays", "ArrayList", "List",
        "Iterator", "Iterable", "Comparable", "Override");
    private static final Set<Class<?>> STATIC_TYPES = Set.of(
        int.class, long.class, boolean.class, char.class, String.class,
        int[].class, long[].class, char[].class, byte[].class);
    /** 'Some twelve', 'some twenty', 'some sixty' are taken a little widely. */
    private static final int MOST_CLASSES = 14, MOST_FIELDS = 24, MOST_LINES = 70;
    private static final int MOST_PARAMETERS = 7, MOST_DEPTH = 8;
    /** The room counts elements; those that the machine makes are counted in bytes, an int's each. */
    private static final long MOST_ELEMENTS = 7_300_000L, BYTES = 4;

    private static int wrong = 0;
    private static String code = "";

    private static void check(boolean holds, String rule) {
        if (!holds) {
            wrong++;
            System.out.println("broken: " + rule);
        }
    }

    public static void main(String[] args) throws Exception {
        byte[] bytes = Files.readAllBytes(SOURCE);
        code = withoutComments(new String(bytes, StandardCharsets.ISO_8859_1));
        face();
        classesInside();
        signs();
        words();
        names();
        staticFields();
        Map<String, String> bodies = bodies();
        int deepest = depths(bodies);
        room();
        System.out.println(wrong == 0 ? "RuleTests: all rules hold, calls go " + deepest + " deep" : "RuleTests: " + wrong + " rules are broken");
        if (wrong != 0) System.exit(1);
    }

    private static String withoutComments(String text) {
        return text.replaceAll("(?s)/\\*.*?\\*/", "").replaceAll("//[^\n]*", "");
    }

    private static boolean has(String pattern) {
        return Pattern.compile(pattern).matcher(code).find();
    }

    // ---- rules 1, 2 and 11: the face and the classes inside

    private static void face() {
        Class<?> c = WatchedHalls.class;
        check(Modifier.isPublic(c.getModifiers()) && Modifier.isFinal(c.getModifiers()), "1: public final class");
        Set<String> open = new TreeSet<>();
        for (Method m : c.getDeclaredMethods()) {
            if (m.isSynthetic()) continue;
            boolean isPublic = Modifier.isPublic(m.getModifiers());
            check(isPublic || Modifier.isPrivate(m.getModifiers()), "1: " + m);
            check(isPublic || !isOfFace(m), "1: a private method bears a public name: " + m);
            if (!isPublic) continue;
            check(m.getReturnType() == int.class && !Modifier.isStatic(m.getModifiers()), "1: " + m);
            for (Class<?> p : m.getParameterTypes()) check(p == int.class, "1: " + m);
            open.add(m.getName() + " " + m.getParameterCount());
        }
        check(open.equals(new TreeSet<>(Set.of(FACE))), "1: public methods " + open);
        Set<String> constants = new TreeSet<>();
        for (Field f : c.getDeclaredFields()) {
            boolean isPublic = Modifier.isPublic(f.getModifiers());
            check(isPublic || Modifier.isPrivate(f.getModifiers()) || f.isSynthetic(), "1: " + f);
            if (isPublic) constants.add(Modifier.toString(f.getModifiers()) + " " + f.getType() + " " + f.getName());
        }
        for (String name : List.of("UNKNOWN", "OUTSIDE", "STATE", "FULL", "NONE"))
            check(constants.remove("public static final int " + name), "1: the constant " + name);
        check(constants.isEmpty(), "1: constants " + constants);
        Constructor<?>[] made = c.getDeclaredConstructors();
        check(made.length == 1 && Modifier.isPublic(made[0].getModifiers()) && made[0].getParameterCount() == 0,
            "1: one public constructor");
    }

    private static boolean isOfFace(Method m) {
        for (String one : FACE) if (one.startsWith(m.getName() + " ")) return true;
        return false;
    }

    private static void classesInside() {
        Class<?>[] inside = WatchedHalls.class.getDeclaredClasses();
        check(inside.length + 1 <= MOST_CLASSES, "11: some twelve classes at most");
        for (Class<?> c : inside) {
            check(Modifier.isStatic(c.getModifiers()), "2: not static: " + c);
            check(!Modifier.isPublic(c.getModifiers()) && !Modifier.isProtected(c.getModifiers()), "1: " + c);
            for (Method m : c.getDeclaredMethods())
                check(!Modifier.isPrivate(m.getModifiers()) || !isOfFace(m), "1: a private method bears a public name: " + m);
            int fields = 0;
            for (Field f : c.getDeclaredFields()) if (!Modifier.isStatic(f.getModifiers())) fields++;
            check(fields <= MOST_FIELDS, "11: fields of " + c);
        }
        check(!has("new \\w+(<\\w*>)?\\([^()]*\\)\\s*\\{"), "2: an anonymous class");
    }

    // ---- rules 3 to 6 and 13: words and names

    private static void signs() {
        Matcher text = Pattern.compile("\"[^\"\n]*\"|'[^'\n]+'").matcher(code);
        while (text.find())
            for (char sign : text.group().toCharArray()) check(sign >= 1 && sign <= 127, "4: the sign " + (int) sign);
    }

    private static void words() {
        String[] never = {
            "6 \\bthrows?\\b", "6 \\btry\\b", "6 \\bcatch\\b", "6 \\bsynchronized\\b", "6 \\bassert\\b", "2 ::",
            "2 (?m)^(?!\\s*(case|default)\\b).*->", "3 \\[\\]\\s*\\[\\]\\s*\\[\\]", "4 Exact\\(", "5 \\bstatic\\s*\\{",
            "1 (?m)^\\s*package\\b", "1 \\bprotected\\b", "6 \\bint hashCode\\s*\\(", "6 \\bboolean equals\\s*\\(",
            "6 \\bString toString\\s*\\(", "13 \\bvolatile\\b", "13 \\bnative\\b"};
        for (String rule : never) {
            int space = rule.indexOf(' ');
            check(!has(rule.substring(space + 1)), rule.substring(0, space) + ": forbidden: " + rule.substring(space + 1));
        }
        Matcher imports = Pattern.compile("import ([\\w.* ]+);").matcher(code);
        Set<String> listed = Set.of("java.util.Arrays", "java.util.ArrayList", "java.util.List", "java.util.Iterator");
        while (imports.find()) check(listed.contains(imports.group(1)), "4: " + imports.group());
        Matcher calls = Pattern.compile("\\b(Arrays|System)\\.(\\w+)").matcher(code);
        Set<String> functions = Set.of("Arrays.fill", "Arrays.copyOf", "Arrays.copyOfRange", "System.arraycopy");
        while (calls.find()) check(functions.contains(calls.group()), "4: " + calls.group());
    }

    /** A name with a capital is a class of the file, a constant (all capitals), or of the library's list. */
    private static void names() {
        Set<String> own = new HashSet<>();
        Matcher declared = Pattern.compile("\\b(?:class|record|enum|interface) (\\w+)").matcher(code);
        while (declared.find()) own.add(declared.group(1));
        String bare = code.replaceAll("\"[^\"\n]*\"", "\"\"").replaceAll("import [^;]*;", "");
        Matcher name = Pattern.compile("\\b[A-Z]\\w*[a-z]\\w*\\b").matcher(bare);
        while (name.find())
            check(own.contains(name.group()) || LIBRARY.contains(name.group()), "4: the name " + name.group());
    }

    private static void staticFields() {
        Class<?>[] inside = WatchedHalls.class.getDeclaredClasses();
        Class<?>[] all = Arrays.copyOf(inside, inside.length + 1);
        all[inside.length] = WatchedHalls.class;
        for (Class<?> c : all)
            for (Field f : c.getDeclaredFields()) {
                if (!Modifier.isStatic(f.getModifiers()) || f.isSynthetic()) continue;
                Class<?> type = f.getType();
                boolean ofEnum = type.isEnum() || type.isArray() && type.getComponentType().isEnum();
                check(Modifier.isFinal(f.getModifiers()), "5: " + f);
                check(STATIC_TYPES.contains(type) || ofEnum || type == List.class, "5: " + f);
            }
    }

    // ---- rule 11: methods

    /** Each method's lines behind 'Class.name', as the file is indented; those of one name are joined. */
    private static Map<String, String> bodies() {
        Map<String, String> found = new LinkedHashMap<>();
        String[] lines = code.split("\n");
        Pattern type = Pattern.compile("^ *[\\w ]*\\b(?:class|record|enum|interface) (\\w+).*\\{$");
        Pattern head = Pattern.compile("^( {4}| {8})(?! |if |for |while |switch )[\\w<>\\[\\] ]*?(\\w+)\\(([^)]*)\\) \\{$");
        String in = "";
        for (int i = 0; i < lines.length; i++) {
            Matcher t = type.matcher(lines[i]);
            if (t.matches()) in = t.group(1);
            Matcher m = head.matcher(lines[i]);
            if (!m.matches()) continue;
            int end = i;
            while (end < lines.length - 1 && !lines[end].equals(m.group(1) + "}")) end++;
            check(end - i < MOST_LINES, "11: a long method: " + lines[i].strip());
            check(m.group(3).split(",").length <= MOST_PARAMETERS, "11: parameters: " + lines[i].strip());
            String body = String.join("\n", Arrays.copyOfRange(lines, i + 1, end));
            found.merge(in + "." + m.group(2), body, (a, b) -> a + "\n" + b);
        }
        return found;
    }

    private static int depths(Map<String, String> bodies) {
        Map<String, String> types = typesOfNames(bodies);
        int deepest = 0;
        for (String method : bodies.keySet()) {
            int depth = depthOf(method, bodies, types, new HashSet<>());
            check(depth <= MOST_DEPTH, "11: " + method + " goes " + depth + " deep");
            deepest = Math.max(deepest, depth);
        }
        return deepest;
    }

    /** Which class of the file a field, parameter or local is of, by its name. */
    private static Map<String, String> typesOfNames(Map<String, String> bodies) {
        Map<String, String> types = new LinkedHashMap<>();
        Set<String> own = new HashSet<>();
        for (String method : bodies.keySet()) own.add(method.substring(0, method.indexOf('.')));
        Matcher typed = Pattern.compile("\\b([A-Z]\\w*) ([a-z]\\w*)\\b").matcher(code);
        while (typed.find()) if (own.contains(typed.group(1))) types.put(typed.group(2), typed.group(1));
        return types;
    }

    private static int depthOf(String method, Map<String, String> bodies, Map<String, String> types, Set<String> open) {
        // what calls itself is bound by rule 8, not by this count
        if (!open.add(method)) return 0;
        String in = method.substring(0, method.indexOf('.'));
        int deepest = 0;
        Matcher call = Pattern.compile("(new )?(?:(\\w+)\\.)?\\b(\\w+)\\(").matcher(bodies.get(method));
        while (call.find()) {
            String owner = call.group(2) != null ? types.getOrDefault(call.group(2), call.group(2)) : in;
            String callee = call.group(1) != null ? call.group(3) + "." + call.group(3) : owner + "." + call.group(3);
            if (!bodies.containsKey(callee) && call.group(2) == null) callee = "WatchedHalls." + call.group(3);
            if (bodies.containsKey(callee)) deepest = Math.max(deepest, depthOf(callee, bodies, types, open));
        }
        open.remove(method);
        return deepest + 1;
    }

    // ---- rule 12: the room

    private static final Tried.Call[] CALLS = {
        x -> x.hall(8, 8), x -> x.cell(63, 0), x -> x.kind(63), x -> x.law(2), x -> x.range(1), x -> x.far(0, 63),
        x -> x.sees(0, 9), x -> x.view(27), x -> x.best(), x -> x.picture(0, 0), x -> x.about(7, 1),
        x -> x.seen(7, 55), x -> x.from(54), x -> x.fewest(), x -> x.post(1), x -> x.tour(27),
        x -> x.tourStep(27, 9), x -> x.step(0, 14), x -> x.wipe(3), x -> x.closed(0), x -> x.shift(0, 1),
        x -> x.where(0, 9999), x -> x.watched(63, 9999), x -> x.period(), x -> x.gap(7), x -> x.worst(),
        x -> x.arrange(), x -> x.theft(7, 0, 9999), x -> x.theftStep(7, 0, 9999, 9), x -> x.hours(7, 0),
        x -> x.turn(), x -> x.mirror(), x -> x.count(4)};

    /** For each call an object that is asked for it alone, in the greatest hall, up to the 512th call. */
    private static void room() {
        check(CALLS.length == FACE.length, "each call of the face is measured");
        var threads = (com.sun.management.ThreadMXBean) ManagementFactory.getThreadMXBean();
        long id = Thread.currentThread().getId();
        for (int i = 0; i < CALLS.length; i++) {
            long before = threads.getThreadAllocatedBytes(id);
            runOf(CALLS[i]);
            long used = threads.getThreadAllocatedBytes(id) - before;
            check(used <= BYTES * MOST_ELEMENTS, "12: a run of " + FACE[i] + " makes " + used + " bytes");
        }
    }

    private static void runOf(Tried.Call call) {
        WatchedHalls x = new WatchedHalls();
        x.hall(8, 8);
        x.range(1);
        for (int p = 0; p < 8; p++) x.picture(p % 2 * 7 + p / 2 * 16, p % 4);
        // rounds of 6, 5, 4 and 3 cells: a period of 60
        for (int w = 0; w < 4; w++) for (int n = 0; n < 6 - w; n++) x.step(w, 9 + 16 * w + n);
        for (int n = 28; n < 512; n++) call.ask(x);
    }
}
