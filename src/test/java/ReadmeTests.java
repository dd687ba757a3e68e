import java.io.File;
import java.io.IOException;
import java.lang.reflect.Method;
import java.lang.reflect.Modifier;
import java.nio.file.Files;
import java.nio.file.Path;
import java.util.ArrayList;
import java.util.HashMap;
import java.util.HashSet;
import java.util.List;
import java.util.Map;
import java.util.Set;
import java.util.TreeSet;
import java.util.regex.Matcher;
import java.util.regex.Pattern;
import java.util.stream.Stream;

/** What README.md shows of the class, call by call, and what it says of the tests. */
public final class ReadmeTests {
    private static final Path README = Path.of("README.md");
    private static final Path TESTS = Path.of("src/test/java");
    private static final Path SHARED = Path.of("../shared");
    private static final Pattern MADE = Pattern.compile("WatchedHalls (\\w+) = new WatchedHalls\\(\\);.*");
    private static final Pattern CALL =
        Pattern.compile("(?:int (\\w+) = )?(\\w+)\\.(\\w+)\\(([^)]*)\\);\\s+// (-?\\d+|[A-Z]+)(?:: .*)?");

    private static final Map<String, WatchedHalls> OBJECTS = new HashMap<>();
    private static final Map<String, Integer> NUMBERS = new HashMap<>();
    private static final Set<String> SHOWN = new TreeSet<>();
    private static int wrong = 0;

    private static void check(boolean holds, String what) {
        if (!holds) {
            wrong++;
            System.out.println("README.md: " + what);
        }
    }

    public static void main(String[] args) throws Exception {
        String page = Files.readString(README);
        for (String line : linesOf(page, "java")) tryLine(line.strip());
        check(SHOWN.equals(callsOfFace()), "shows " + SHOWN + ", the face has " + callsOfFace());
        constants(page);
        testFiles(page);
        namedFiles(page);
        commands(linesOf(page, "sh"));
        System.out.println(wrong == 0 ? "ReadmeTests: all is as README.md says" : "ReadmeTests: " + wrong + " are not so");
        if (wrong != 0) System.exit(1);
    }

    /** The lines of the blocks of a language. */
    private static List<String> linesOf(String page, String language) {
        List<String> lines = new ArrayList<>();
        Matcher block = Pattern.compile("(?s)```" + language + "\n(.*?)```").matcher(page);
        while (block.find())
            for (String line : block.group(1).split("\n")) if (!line.isBlank()) lines.add(line);
        check(!lines.isEmpty(), "has no block of " + language);
        return lines;
    }

    private static void tryLine(String line) throws Exception {
        Matcher made = MADE.matcher(line);
        if (made.matches()) {
            OBJECTS.put(made.group(1), new WatchedHalls());
            return;
        }
        Matcher call = CALL.matcher(line);
        if (!call.matches() || !OBJECTS.containsKey(call.group(2))) {
            check(false, "can't be tried: " + line);
            return;
        }
        int got = ask(OBJECTS.get(call.group(2)), call.group(3), call.group(4));
        check(got == numberOf(call.group(5)), line + " -- it answers " + got);
        SHOWN.add(call.group(3));
        if (call.group(1) != null) NUMBERS.put(call.group(1), got);
    }

    private static int ask(WatchedHalls x, String name, String arguments) throws Exception {
        String[] words = arguments.isBlank() ? new String[0] : arguments.split(",");
        Class<?>[] types = new Class<?>[words.length];
        Object[] values = new Object[words.length];
        for (int i = 0; i < words.length; i++) {
            types[i] = int.class;
            values[i] = numberOf(words[i].strip());
        }
        return (int) WatchedHalls.class.getMethod(name, types).invoke(x, values);
    }

    /** A number, one of the class's constants, or what an earlier line has named. */
    private static int numberOf(String word) throws Exception {
        if (word.matches("-?\\d+")) return Integer.parseInt(word);
        if (NUMBERS.containsKey(word)) return NUMBERS.get(word);
        return WatchedHalls.class.getField(word).getInt(null);
    }

    private static Set<String> callsOfFace() {
        Set<String> names = new TreeSet<>();
        for (Method m : WatchedHalls.class.getDeclaredMethods())
            if (Modifier.isPublic(m.getModifiers())) names.add(m.getName());
        return names;
    }

    private static void constants(String page) throws Exception {
        Set<String> told = new HashSet<>();
        Matcher constant = Pattern.compile("`([A-Z]+)` \\(?(-\\d+)").matcher(page);
        while (constant.find()) {
            told.add(constant.group(1));
            check(numberOf(constant.group(1)) == Integer.parseInt(constant.group(2)), constant.group());
        }
        check(told.equals(Set.of("UNKNOWN", "OUTSIDE", "STATE", "FULL", "NONE")), "tells of " + told);
    }

    /** Each file of the tests is told of. */
    private static void testFiles(String page) throws IOException {
        try (Stream<Path> files = Files.list(TESTS)) {
            for (Path file : files.toList()) {
                String name = TESTS + "/" + file.getFileName();
                check(page.contains("`" + name + "`"), "does not tell of " + name);
            }
        }
    }

    /** Each path that the page names is there; names without a folder are not tried. */
    private static void namedFiles(String page) {
        Matcher named = Pattern.compile("`((?:\\.\\./|src/|\\.ci/)[\\w./]+)`").matcher(page);
        while (named.find()) {
            Path path = Path.of(named.group(1));
            if (path.startsWith(SHARED) && !Files.exists(SHARED)) continue;
            check(Files.exists(path), "names " + path + ", which is not there");
        }
    }

    /** The commands are run as they stand, but for the folder 'out'; .ci/run is what runs this test. */
    private static void commands(List<String> lines) throws Exception {
        check(lines.remove(".ci/run"), "does not show .ci/run");
        check(Files.isExecutable(Path.of(".ci/run")), ".ci/run is not executable");
        Path out = Files.createTempDirectory("readme");
        for (String line : lines) {
            String command = line.replaceAll(" out ", " " + out + " ");
            check(!command.equals(line) && !line.contains("ReadmeTests"), "is not run: " + line);
            if (command.equals(line) || line.contains("ReadmeTests")) continue;
            Process p = new ProcessBuilder("sh", "-c", command)
                .redirectErrorStream(true).redirectOutput(ProcessBuilder.Redirect.DISCARD).start();
            check(p.waitFor() == 0, "fails: " + line);
        }
        try (Stream<Path> left = Files.walk(out)) {
            left.sorted(java.util.Comparator.reverseOrder()).map(Path::toFile).forEach(File::delete);
        }
    }
}
