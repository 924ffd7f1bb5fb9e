import java.io.IOException;
import java.nio.file.Files;
import java.nio.file.Path;
import java.util.ArrayList;
import java.util.Comparator;
import java.util.LinkedHashMap;
import java.util.List;
import java.util.Map;
import java.util.TreeSet;
import java.util.concurrent.ExecutorService;
import java.util.concurrent.Executors;
import java.util.concurrent.Future;
import java.util.stream.Stream;

/** .ci/run in small projects of their own: it runs every test of both directories, and fails when one of them does. */
public final class CiTest {
    private static final Path SCRIPT = Path.of(".ci/run");
    private static final String PROGRAM = "main/src/main/java/KeySetter.java";
    private static final String OWN = "main/src/test/java/";
    private static final String SHARED = "shared/tests/";
    private static final String CLEAN = "public final class KeySetter { public int count(int what) { return 6; } }";
    private static final String WARNED = "import java.util.List; public final class KeySetter { List raw; "
        + "public int count(int what) { return 6; } }";

    /** A project: its files, what .ci/run is due to end with, and what it is due to print. */
    private static final class Project {
        final String name;
        final int due;
        final Map<String, String> files = new LinkedHashMap<>();
        final List<String> prints = new ArrayList<>();

        Project(String name, int due) {
            this.name = name;
            this.due = due;
            files.put(PROGRAM, CLEAN);
        }

        Project with(String path, String text) {
            files.put(path, text);
            return this;
        }

        Project printing(String... words) {
            prints.addAll(List.of(words));
            return this;
        }
    }

    private static String test(String name, String after) {
        return "public final class " + name + " { public static void main(String[] args) { System.out.println(\"" + name
            + " saw \" + new KeySetter().count(0)); " + after + " } }";
    }

    private static String passing(String name) {
        return test(name, "");
    }

    private static String failing(String name) {
        return test(name, "System.exit(1);");
    }

    private static List<Project> projects() {
        List<Project> all = new ArrayList<>();
        all.add(new Project("all pass", 0).with(OWN + "A.java", passing("A")).with(OWN + "B.java", passing("B"))
            .with(SHARED + "C.java", passing("C")).with(SHARED + "D.java", passing("D"))
            .printing("A saw 6", "B saw 6", "C saw 6", "D saw 6", "all 4 tests passed"));
        all.add(new Project("one of the project fails", 1).with(OWN + "A.java", failing("A"))
            .with(OWN + "B.java", passing("B")).with(SHARED + "C.java", passing("C"))
            .printing("src/test/java/A.java failed", "B saw 6", "C saw 6"));
        all.add(new Project("one of the shared fails", 1).with(OWN + "A.java", passing("A"))
            .with(SHARED + "C.java", failing("C")).with(SHARED + "D.java", passing("D"))
            .printing("A saw 6", "../shared/tests/C.java failed", "D saw 6"));
        all.add(new Project("one throws", 1).with(OWN + "A.java", test("A", "throw new IllegalStateException();"))
            .with(SHARED + "C.java", passing("C")).printing("src/test/java/A.java failed", "C saw 6"));
        all.add(new Project("one does not compile", 1).with(OWN + "A.java", passing("A"))
            .with(SHARED + "C.java", test("C", "new KeySetter().nothing();"))
            .printing("A saw 6", "../shared/tests/C.java does not compile"));
        all.add(new Project("none of the project", 1).with(SHARED + "C.java", passing("C"))
            .printing("no tests in src/test/java"));
        all.add(new Project("none shared", 1).with(OWN + "A.java", passing("A"))
            .printing("no tests in ../shared/tests"));
        all.add(new Project("the class has a warning", 1).with(PROGRAM, WARNED).with(OWN + "A.java", passing("A"))
            .with(SHARED + "C.java", passing("C")).printing("rawtypes"));
        return all;
    }

    // ---- making and running them

    private static void make(Project project, Path root) throws IOException {
        for (Map.Entry<String, String> file : project.files.entrySet()) {
            Path path = root.resolve(file.getKey());
            Files.createDirectories(path.getParent());
            Files.writeString(path, file.getValue());
        }
        Path script = root.resolve("main").resolve(SCRIPT);
        Files.createDirectories(script.getParent());
        Files.copy(SCRIPT, script);
    }

    private static TreeSet<String> pathsUnder(Path root) throws IOException {
        TreeSet<String> paths = new TreeSet<>(Comparator.reverseOrder());
        try (Stream<Path> all = Files.walk(root)) {
            all.forEach(path -> paths.add(path.toString()));
        }
        return paths;
    }

    private static Process start(Path root, Path room) throws IOException {
        // Called from elsewhere, as it must find its project by itself; by sh, as not every system lets files of a
        // temporary directory be run.
        ProcessBuilder command = new ProcessBuilder("sh", root.resolve("main").resolve(SCRIPT).toString());
        // So that what it leaves behind of its own is seen as well.
        command.environment().put("TMPDIR", room.toString());
        return command.directory(root.toFile()).redirectErrorStream(true).start();
    }

    /** Empty if .ci/run does in this project what is due. */
    private static String complaintOf(Project project) throws IOException, InterruptedException {
        Path root = Files.createTempDirectory("ci");
        make(project, root);
        Path room = Files.createDirectories(root.resolve("room"));
        TreeSet<String> before = pathsUnder(root);
        Process process = start(root, room);
        String printed = new String(process.getInputStream().readAllBytes());
        int code = process.waitFor();
        TreeSet<String> after = pathsUnder(root);
        for (String path : after) Files.delete(Path.of(path));

        String complaint = code == project.due ? "" : "exit code " + code + ", due is " + project.due + "; ";
        for (String words : project.prints) if (!printed.contains(words)) complaint += "it did not print \"" + words + "\"; ";
        if (!after.equals(before)) complaint += "it left other files behind; ";
        return complaint.isEmpty() ? "" : project.name + ": " + complaint + "it printed\n" + printed;
    }

    public static void main(String[] args) throws Exception {
        int wrong = 0;
        ExecutorService workers = Executors.newFixedThreadPool(4);
        List<Future<String>> complaints = new ArrayList<>();
        for (Project project : projects()) complaints.add(workers.submit(() -> complaintOf(project)));
        workers.shutdown();
        for (Future<String> complaint : complaints) {
            if (!complaint.get().isEmpty()) {
                wrong++;
                System.out.println(complaint.get());
            }
        }
        System.out.println(wrong == 0 ? ".ci/run does what README.md says" : wrong + " projects end otherwise");
        if (wrong != 0) System.exit(1);
    }
}
