import java.io.File;
import java.io.IOException;
import java.lang.reflect.Method;
import java.lang.reflect.Modifier;
import java.net.URL;
import java.net.URLClassLoader;
import java.nio.file.Files;
import java.nio.file.Path;
import java.util.List;
import java.util.Map;
import java.util.TreeMap;
import java.util.TreeSet;
import java.util.regex.Matcher;
import java.util.regex.Pattern;
import java.util.stream.Collectors;
import java.util.stream.Stream;
import javax.tools.ToolProvider;

/**
 * What README.md shows: its Java blocks compile as they stand, its calls answer what it says behind them, and no call
 * of the face, no constant and no test of the project is left out.
 */
public final class ReadmeTest {
    private static final Path README = Path.of("README.md");
    private static final Path TESTS = Path.of("src/test/java");
    private static final String PROGRAM = "ReadmeCalls";
    private static final Pattern MADE = Pattern.compile("HeartHours \\w+ = new HeartHours\\(\\);");
    private static final Pattern CALL = Pattern.compile("(\\w.*\\));\\s+// (-?\\d+)(?: \\((\\w+)\\))?(?:: .+)?");
    private static final Pattern CONSTANT = Pattern.compile("`([A-Z]+)` \\((-\\d+)\\)");
    private static final Pattern TEST = Pattern.compile("`(\\w+Test)`");
    private static final List<String> CONSTANTS = List.of("BAD", "FULL", "NONE", "STATE");
    private static int wrong = 0;

    private final List<String> lines;
    /** Lines of Java by their number (from 1): methods of the reader's own, and what is done one behind the other. */
    private final Map<Integer, String> members = new TreeMap<>();
    private final Map<Integer, String> steps = new TreeMap<>();

    private ReadmeTest(List<String> lines) {
        this.lines = lines;
    }

    private static void say(int line, String what) {
        wrong++;
        System.out.println("README.md" + (line > 0 ? ", line " + line : "") + ": " + what);
    }

    // ---- reading

    private void takeBlocks() {
        Map<Integer, String> into = null;
        boolean inside = false;
        for (int i = 0; i < lines.size(); i++) {
            String line = lines.get(i);
            if (line.startsWith("```")) {
                inside = !inside;
                into = null;
                if (inside && !line.equals("```java")) say(i + 1, "a block that is no Java can't be tested");
            } else if (inside) {
                if (into == null) into = line.startsWith("static ") ? members : steps;
                if (!line.isBlank()) into.put(i + 1, line);
            }
        }
        if (inside) say(lines.size(), "a block has no end");
    }

    private Map<Integer, Matcher> calls() {
        Map<Integer, Matcher> calls = new TreeMap<>();
        steps.forEach((number, line) -> {
            Matcher call = CALL.matcher(line);
            if (call.matches()) calls.put(number, call);
            else if (!MADE.matcher(line).matches()) say(number, "neither a new town nor a call with its answer");
        });
        return calls;
    }

    // ---- running

    /** The blocks as they stand, and once more with each call's answer noted. */
    private String source(Map<Integer, Matcher> calls) {
        StringBuilder text = new StringBuilder("public final class " + PROGRAM + " {\n");
        members.values().forEach(line -> text.append(line).append('\n'));
        text.append("static void asTheyStand() {\n");
        steps.values().forEach(line -> text.append(line).append('\n'));
        text.append("}\npublic static int[] answers() {\nint[] answers = new int[" + (lines.size() + 1) + "];\n");
        steps.forEach((number, line) -> {
            if (calls.containsKey(number)) text.append("answers[" + number + "] = " + calls.get(number).group(1) + ";\n");
            else text.append(line).append('\n');
        });
        return text.append("return answers;\n}\n}\n").toString();
    }

    private static int[] answersOf(String source) throws Exception {
        Path place = Files.createTempDirectory("readme");
        try {
            Path file = Files.writeString(place.resolve(PROGRAM + ".java"), source);
            int failed = ToolProvider.getSystemJavaCompiler().run(null, System.out, System.out,
                "-cp", System.getProperty("java.class.path"), "-d", place.toString(), file.toString());
            if (failed != 0) return null;
            try (URLClassLoader loader = new URLClassLoader(new URL[] {place.toUri().toURL()}, ReadmeTest.class.getClassLoader())) {
                return (int[]) loader.loadClass(PROGRAM).getMethod("answers").invoke(null);
            }
        } finally {
            for (File file : place.toFile().listFiles()) file.delete();
            place.toFile().delete();
        }
    }

    private void checkCalls() throws Exception {
        Map<Integer, Matcher> calls = calls();
        int[] answers = answersOf(source(calls));
        if (answers == null) {
            say(0, "what it shows doesn't compile");
            return;
        }
        for (Map.Entry<Integer, Matcher> entry : calls.entrySet()) {
            int number = entry.getKey();
            Matcher call = entry.getValue();
            int want = Integer.parseInt(call.group(2));
            if (answers[number] != want) say(number, call.group(1) + " answered " + answers[number] + ", it says " + want);
            if (call.group(3) != null) checkConstant(number, call.group(3), want);
        }
        System.out.println(calls.size() + " calls of README.md asked");
    }

    // ---- what it must name

    private static void checkConstant(int line, String name, int value) throws Exception {
        if (!CONSTANTS.contains(name)) say(line, "there is no constant " + name);
        else if (HeartHours.class.getField(name).getInt(null) != value) say(line, name + " is not " + value);
    }

    private void checkConstants() throws Exception {
        TreeSet<String> named = new TreeSet<>();
        Matcher constant = CONSTANT.matcher(String.join("\n", lines));
        while (constant.find()) {
            checkConstant(0, constant.group(1), Integer.parseInt(constant.group(2)));
            named.add(constant.group(1));
        }
        if (!named.equals(new TreeSet<>(CONSTANTS))) say(0, "the constants it names are " + named);
    }

    private void checkFace() {
        String shown = String.join("\n", steps.values());
        for (Method m : HeartHours.class.getDeclaredMethods()) {
            if (Modifier.isPublic(m.getModifiers()) && !shown.contains("town." + m.getName() + "(")) say(0, "doesn't show " + m.getName());
        }
    }

    private void checkTests() throws IOException {
        TreeSet<String> named = new TreeSet<>();
        Matcher test = TEST.matcher(String.join("\n", lines));
        while (test.find()) named.add(test.group(1));
        TreeSet<String> there;
        try (Stream<Path> files = Files.list(TESTS)) {
            there = files.map(f -> f.getFileName().toString()).filter(n -> n.endsWith("Test.java"))
                .map(n -> n.substring(0, n.length() - ".java".length())).collect(Collectors.toCollection(TreeSet::new));
        }
        if (!named.equals(there)) say(0, "the tests it names are " + named + ", there are " + there);
        if (!lines.contains("    .ci/run") || !Files.isExecutable(Path.of(".ci/run"))) say(0, "doesn't say how to run the tests");
    }

    public static void main(String[] args) throws Exception {
        ReadmeTest readme = new ReadmeTest(Files.readAllLines(README));
        readme.takeBlocks();
        readme.checkCalls();
        readme.checkConstants();
        readme.checkFace();
        readme.checkTests();
        System.out.println(wrong == 0 ? "README.md says what is so" : wrong + " things in README.md are not so");
        if (wrong != 0) System.exit(1);
    }
}
