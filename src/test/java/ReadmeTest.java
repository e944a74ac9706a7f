import java.io.IOException;
import java.lang.reflect.Method;
import java.lang.reflect.Modifier;
import java.net.URL;
import java.net.URLClassLoader;
import java.nio.charset.StandardCharsets;
import java.nio.file.Files;
import java.nio.file.Path;
import java.util.ArrayList;
import java.util.List;
import java.util.Set;
import java.util.TreeSet;
import java.util.regex.Matcher;
import java.util.regex.Pattern;
import java.util.stream.Stream;
import javax.tools.ToolProvider;

/** README.md is held to what it says: its code compiles, its calls answer so, its tests are those that there are. */
public final class ReadmeTest {
    private static final Path README = Path.of("README.md");
    private static final Path TESTS = Path.of("src/test/java");
    private static final Pattern BLOCK = Pattern.compile("(?ms)^```java\n(.*?)^```$");
    private static final Pattern CALL = Pattern.compile("^(x\\.(\\w+)\\(.*\\)); +// (-?\\d+|[A-Z]+): .+$");
    private static final Pattern TEST_ROW = Pattern.compile("(?m)^\\| (\\w+Test) \\| .+ \\|$");
    private static final int MOST_CALLS = 512;

    private static final Due DUE = new Due("ReadmeTest");

    /** A call that the page shows, with the answer that the page says and the answer that came. */
    public static final class Answer {
        private final String call;
        private final long got;
        private final long want;

        public Answer(String call, long got, long want) {
            this.call = call;
            this.got = got;
            this.want = want;
        }
    }

    private ReadmeTest() {
    }

    public static void main(String[] args) throws Exception {
        String page = Files.readString(README, StandardCharsets.UTF_8);
        calls(page);
        tests(page);
        DUE.end();
    }

    private static void calls(String page) throws Exception {
        List<String> lines = new ArrayList<>();
        Set<String> shown = new TreeSet<>();
        Matcher block = BLOCK.matcher(page);
        while (block.find()) {
            block.group(1).lines().forEach(line -> lines.add(asked(line, shown)));
        }
        DUE.so("code is shown", !lines.isEmpty());
        for (Method m : TurnRounds.class.getDeclaredMethods()) {
            if (Modifier.isPublic(m.getModifiers())) {
                DUE.so(m.getName() + " is shown with its answer", shown.contains(m.getName()));
            }
        }
        DUE.so("nothing else calls: a call stands in a block of code", !BLOCK.matcher(page).replaceAll("").contains("x."));
        List<Answer> answers = run(lines);
        DUE.so("calls that the page shows: " + answers.size(), answers.size() >= 28 && answers.size() < MOST_CALLS - 64);
        for (Answer a : answers) {
            DUE.is(a.call, a.got, a.want);
        }
    }

    /** A line with a call and its answer becomes one that notes both; any other stays as it is. */
    private static String asked(String line, Set<String> shown) {
        Matcher call = CALL.matcher(line);
        if (!call.matches()) {
            DUE.so("an answer stands behind: " + line, !line.startsWith("x."));
            return line;
        }
        shown.add(call.group(2));
        String answer = call.group(3);
        String want = Character.isLetter(answer.charAt(0)) ? "TurnRounds." + answer : answer + "L";
        String told = call.group(1).replace("\"", "\\\"");
        return "answers.add(new ReadmeTest.Answer(\"" + told + "\", " + call.group(1) + ", " + want + "));";
    }

    private static List<Answer> run(List<String> lines) throws Exception {
        List<Answer> answers = new ArrayList<>();
        Path folder = Files.createTempDirectory("readme");
        try {
            Path file = folder.resolve("ReadmeCalls.java");
            Files.writeString(file, "public final class ReadmeCalls {\n"
                    + "public static void run(java.util.List<ReadmeTest.Answer> answers) {\n"
                    + String.join("\n", lines) + "\n}\n}\n");
            int failed = ToolProvider.getSystemJavaCompiler().run(null, null, null, "-encoding", "UTF-8",
                    "-cp", System.getProperty("java.class.path"), "-d", folder.toString(), file.toString());
            DUE.is("the code that the page shows compiles", failed, 0);
            if (failed == 0) {
                URL[] places = {folder.toUri().toURL()};
                try (URLClassLoader loader = new URLClassLoader(places, ReadmeTest.class.getClassLoader())) {
                    loader.loadClass("ReadmeCalls").getMethod("run", List.class).invoke(null, answers);
                }
            }
        } finally {
            delete(folder);
        }
        return answers;
    }

    private static void delete(Path folder) throws IOException {
        try (Stream<Path> files = Files.list(folder)) {
            for (Path file : files.toList()) {
                Files.delete(file);
            }
        }
        Files.delete(folder);
    }

    private static void tests(String page) throws IOException {
        Set<String> named = new TreeSet<>();
        Matcher row = TEST_ROW.matcher(page);
        while (row.find()) {
            named.add(row.group(1));
        }
        Set<String> there = new TreeSet<>();
        try (Stream<Path> files = Files.list(TESTS)) {
            for (Path file : files.toList()) {
                if (Files.readString(file).contains("public static void main(")) {
                    there.add(file.getFileName().toString().replace(".java", ""));
                }
            }
        }
        DUE.so("the page names the tests " + there + ", it names " + named, named.equals(there));
        DUE.so("the page says how the tests are run", page.contains("\n    .ci/run\n"));
        DUE.so("what runs the tests can be run", Files.isExecutable(Path.of(".ci/run")));
    }
}
