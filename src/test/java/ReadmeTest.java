import java.io.IOException;
import java.lang.reflect.Method;
import java.lang.reflect.Modifier;
import java.net.URL;
import java.net.URLClassLoader;
import java.nio.file.Files;
import java.nio.file.Path;
import java.util.ArrayList;
import java.util.Comparator;
import java.util.List;
import java.util.Set;
import java.util.TreeSet;
import java.util.regex.Matcher;
import java.util.regex.Pattern;
import java.util.stream.Stream;
import javax.tools.JavaCompiler;
import javax.tools.ToolProvider;

/** What README.md shows of the use of the class is compiled and run; its lists of calls and of tests are whole. */
public final class ReadmeTest {
    private static final Path README = Path.of("README.md");
    private static final Path TESTS = Path.of("src/test/java");
    private static final String MAKING = "KeySetter x = new KeySetter();";
    private static final Pattern CALL = Pattern.compile("(x\\.(\\w+)\\(.*\\)); +// (-?\\d+|NONE|BAD|NO|FULL|SPENT)(: .+)?");
    private static int wrong = 0;

    private static void check(boolean holds, String otherwise) {
        if (!holds) {
            wrong++;
            System.out.println(otherwise);
        }
    }

    // ---- the calls that are shown

    private static List<String> blocks(String text, String language) {
        List<String> found = new ArrayList<>();
        Matcher m = Pattern.compile("(?s)```" + language + "\n(.*?)```").matcher(text);
        while (m.find()) found.add(m.group(1));
        return found;
    }

    /** The calls of all blocks, one after the other; every other line is none that README.md may have. */
    private static List<Matcher> callsShown(String text) {
        List<Matcher> calls = new ArrayList<>();
        int made = 0;
        for (String line : String.join("", blocks(text, "java")).split("\n")) {
            Matcher m = CALL.matcher(line);
            if (m.matches()) calls.add(m);
            else if (line.equals(MAKING) && calls.isEmpty()) made++;
            else check(line.isEmpty(), "README.md shows a line that is no call with its answer: " + line);
        }
        check(made == 1, "README.md makes " + made + " objects ahead of its calls");
        check(calls.size() < 512, "README.md shows more calls than an object has");
        return calls;
    }

    private static long told(String answer) throws ReflectiveOperationException {
        return Character.isLetter(answer.charAt(0)) ? KeySetter.class.getField(answer).getInt(null) : Long.parseLong(answer);
    }

    private static String programOf(List<Matcher> calls) {
        StringBuilder s = new StringBuilder("public final class Shown { public static long[] answers() { ");
        s.append(MAKING).append(" return new long[] {\n");
        for (Matcher call : calls) s.append(call.group(1)).append(",\n");
        return s.append("}; } }\n").toString();
    }

    private static long[] answersOf(List<Matcher> calls, Path room) throws IOException, ReflectiveOperationException {
        Path source = room.resolve("Shown.java");
        Files.writeString(source, programOf(calls));
        JavaCompiler javac = ToolProvider.getSystemJavaCompiler();
        int failed = javac.run(null, System.out, System.out, "-cp", System.getProperty("java.class.path"), "-d",
            room.toString(), source.toString());
        check(failed == 0, "what README.md shows does not compile");
        if (failed != 0) return new long[calls.size()];
        try (URLClassLoader loader = new URLClassLoader(new URL[] {room.toUri().toURL()})) {
            return (long[]) loader.loadClass("Shown").getMethod("answers").invoke(null);
        }
    }

    private static void checkCalls(String text) throws IOException, ReflectiveOperationException {
        List<Matcher> calls = callsShown(text);
        Path room = Files.createTempDirectory("readme");
        try {
            long[] answers = answersOf(calls, room);
            for (int i = 0; i < answers.length; i++) {
                Matcher call = calls.get(i);
                check(answers[i] == told(call.group(3)), call.group() + " -- but it answered " + answers[i]);
            }
        } finally {
            wipe(room);
        }
        checkEachMethodIsShown(calls);
    }

    private static void checkEachMethodIsShown(List<Matcher> calls) {
        Set<String> shown = new TreeSet<>();
        for (Matcher call : calls) shown.add(call.group(2));
        for (Method m : KeySetter.class.getDeclaredMethods()) {
            boolean face = Modifier.isPublic(m.getModifiers());
            check(!face || shown.contains(m.getName()), "README.md does not show " + m.getName() + "()");
        }
    }

    private static void wipe(Path room) throws IOException {
        List<Path> all;
        try (Stream<Path> paths = Files.walk(room)) {
            all = paths.sorted(Comparator.reverseOrder()).toList();
        }
        for (Path path : all) Files.delete(path);
    }

    // ---- what it says in words

    private static void checkNumbers(String text) {
        String words = text.replaceAll("\\s+", " ");
        String[] names = {"BAD", "NO", "FULL", "SPENT"};
        int[] values = {KeySetter.BAD, KeySetter.NO, KeySetter.FULL, KeySetter.SPENT};
        for (int i = 0; i < names.length; i++) {
            String want = "`" + names[i] + "` (" + values[i] + ")";
            check(words.contains(want), "README.md does not say " + want);
        }
    }

    /** Ten LETTERS on twelve KEYS that are alike: all SETTINGS cost the same, and there are too many. */
    private static void checkSpent() {
        KeySetter x = new KeySetter();
        x.letters(10);
        for (int k = 0; k < 12; k++) x.key(2, 1);
        x.feed(0, 0x696AL, 2);
        check(x.search() == KeySetter.SPENT && x.tries() == 20000, "a search beyond 20000 tries is not SPENT");
        check(x.least() == 1 && x.take() == 1 && x.all() == 1, "it does not keep what it found by then");
    }

    private static void checkTestsNamed(String text) throws IOException {
        Set<String> named = new TreeSet<>();
        Matcher m = Pattern.compile("(?m)^- `(\\w+)`: ").matcher(text);
        while (m.find()) check(named.add(m.group(1)), "README.md names " + m.group(1) + " twice");
        Set<String> there = new TreeSet<>();
        try (Stream<Path> paths = Files.list(TESTS)) {
            paths.forEach(path -> there.add(path.getFileName().toString().replace(".java", "")));
        }
        check(named.equals(there), "README.md names the tests " + named + ", but there are " + there);
    }

    private static void checkCommand(String text) {
        List<String> commands = blocks(text, "sh");
        check(commands.equals(List.of(".ci/run\n")), "README.md has the commands " + commands);
        check(Files.isExecutable(Path.of(".ci/run")), ".ci/run cannot be run");
    }

    public static void main(String[] args) throws IOException, ReflectiveOperationException {
        String text = Files.readString(README);
        checkCalls(text);
        checkNumbers(text);
        checkSpent();
        checkTestsNamed(text);
        checkCommand(text);
        System.out.println(wrong == 0 ? "README.md holds" : wrong + " things are not as due");
        if (wrong != 0) System.exit(1);
    }
}
