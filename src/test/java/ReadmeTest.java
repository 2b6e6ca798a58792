import java.io.IOException;
import java.net.URL;
import java.net.URLClassLoader;
import java.nio.file.Files;
import java.nio.file.Path;
import java.util.Comparator;
import java.util.List;
import java.util.regex.Matcher;
import java.util.regex.Pattern;
import java.util.stream.Stream;
import javax.tools.JavaCompiler;
import javax.tools.ToolProvider;

/** What README.md says holds: its example compiles and answers as told, and it tells of all tests. */
public final class ReadmeTest {
    private static final Pattern BLOCK = Pattern.compile("```java\n(.*?)```", Pattern.DOTALL);
    private static final Pattern CALL = Pattern.compile("(desk\\.\\w+\\([^;]*\\));\\s+// (-?\\d+): .*");
    private static int wrong = 0;

    private ReadmeTest() {
    }

    private static void check(boolean holds, String what) {
        if (!holds) {
            wrong++;
            System.out.println("README.md: " + what);
        }
    }

    /** A class of the README's Java, whose calls are held against the answers beside them. */
    private static String sourceOf(String readme) {
        StringBuilder methods = new StringBuilder();
        StringBuilder lines = new StringBuilder();
        int answers = 0;
        Matcher blocks = BLOCK.matcher(readme);
        while (blocks.find()) {
            if (blocks.group(1).startsWith("static ")) {
                methods.append(blocks.group(1));
                continue;
            }
            for (String line : blocks.group(1).split("\n")) {
                Matcher call = CALL.matcher(line);
                boolean isAnswered = call.matches();
                check(isAnswered || !line.startsWith("desk."), "no answer is told of " + line);
                answers += isAnswered ? 1 : 0;
                lines.append(isAnswered ? "due(" + call.group(1) + ", " + call.group(2) + ");" : line).append('\n');
            }
        }
        check(answers > 20, "answers are found: " + answers);
        return "public final class ReadmeUse { public static int[] told = new int[100]; public static int size = 0;\n"
                + "static void due(int got, int want) { told[size++] = got; told[size++] = want; }\n"
                + methods + "public static void use() {\n" + lines + "} }\n";
    }

    private static void runExample(Path directory, String source) throws Exception {
        Path file = directory.resolve("ReadmeUse.java");
        Files.writeString(file, source);
        JavaCompiler compiler = ToolProvider.getSystemJavaCompiler();
        int code = compiler.run(null, null, null, "-proc:none", "-d", directory.toString(),
                "src/main/java/WhichWill.java", file.toString());
        check(code == 0, "the example does not compile");
        if (code != 0) {
            return;
        }
        // No parent but the library: the desk is the one that was compiled with the example.
        URL[] where = {directory.toUri().toURL()};
        try (URLClassLoader loader = new URLClassLoader(where, ClassLoader.getPlatformClassLoader())) {
            Class<?> use = loader.loadClass("ReadmeUse");
            use.getMethod("use").invoke(null);
            int[] told = (int[]) use.getField("told").get(null);
            int size = use.getField("size").getInt(null);
            for (int i = 0; i + 1 < size; i += 2) {
                check(told[i] == told[i + 1], "answer " + (i / 2 + 1) + " is " + told[i] + ", told is " + told[i + 1]);
            }
        }
    }

    private static List<Path> within(Path directory) throws IOException {
        try (Stream<Path> found = Files.walk(directory)) {
            return found.sorted(Comparator.reverseOrder()).toList();
        }
    }

    private static void checkTestsToldOf(String readme) throws IOException {
        for (Path test : within(Path.of("src/test/java"))) {
            String name = test.getFileName().toString();
            if (name.endsWith(".java")) {
                check(readme.contains("`" + name.substring(0, name.length() - 5) + "`"), "nothing is told of " + name);
            }
        }
        String script = Files.readString(Path.of(".ci/run"));
        for (String tests : List.of("src/test/java/*Test.java", "../shared/tests/*.java")) {
            check(readme.contains(tests), "nothing is told of " + tests);
            check(script.replace("\"", "").contains("$root/" + tests), ".ci/run does not run " + tests);
        }
        check(Files.isExecutable(Path.of(".ci/run")), ".ci/run can't be run");
    }

    public static void main(String[] args) throws Exception {
        String readme = Files.readString(Path.of("README.md"));
        Path directory = Files.createTempDirectory("readme");
        try {
            runExample(directory, sourceOf(readme));
        } finally {
            for (Path one : within(directory)) {
                Files.delete(one);
            }
        }
        checkTestsToldOf(readme);
        System.out.println(wrong == 0 ? "README.md says what holds" : wrong + " faults");
        if (wrong != 0) {
            System.exit(1);
        }
    }
}
