import java.io.IOException;
import java.lang.reflect.Method;
import java.lang.reflect.Modifier;
import java.net.URL;
import java.net.URLClassLoader;
import java.nio.charset.StandardCharsets;
import java.nio.file.Files;
import java.nio.file.Path;
import java.util.ArrayList;
import java.util.List;
import java.util.Set;
import java.util.TreeSet;
import java.util.regex.Matcher;
import java.util.regex.Pattern;
import java.util.stream.Stream;
import javax.tools.JavaCompiler;
import javax.tools.ToolProvider;

/**
 * README.md's java blocks compile as one run, and answer as it says; it names each call and each test.
 * Run at the project's root.
 */
public final class ReadmeTest {
    /** A call with what it answers: perhaps "int name = ", the call, ";", "// " and the answer, perhaps told on. */
    private static final Pattern TOLD = Pattern.compile("(?:(int|long) (\\w+) = )?(\\S.*);\\s+// (-?\\d+)(?:[:;].*)?");
    private static final Pattern CALL = Pattern.compile("(?:x|new HighWater\\(\\))\\.(\\w+)\\(");
    private static final Path TESTS = Path.of("src/test/java");

    private static final Set<String> called = new TreeSet<>();
    private static int toldCalls = 0;

    public static void main(String[] args) throws Exception {
        String readme = Files.readString(Path.of("README.md"), StandardCharsets.UTF_8);
        run(blocks(readme, "java"));
        for (Method method : HighWater.class.getDeclaredMethods()) {
            if (Modifier.isPublic(method.getModifiers())) {
                Due.isTrue("README.md calls " + method.getName(), called.contains(method.getName()));
            }
        }
        Due.isTrue("calls with an answer: " + toldCalls, toldCalls > 80);
        tests(readme);
        Due.end();
    }

    private static List<String> blocks(String readme, String language) {
        List<String> lines = new ArrayList<>();
        Matcher block = Pattern.compile("```" + language + "\n(.*?)```\n", Pattern.DOTALL).matcher(readme);
        while (block.find()) {
            lines.addAll(List.of(block.group(1).split("\n")));
        }
        return lines;
    }

    // ---- the run of calls

    private static void run(List<String> lines) throws Exception {
        StringBuilder source = new StringBuilder("public final class ReadmeRun {\n");
        source.append("    public static void run(java.util.List<long[]> answers) {\n");
        List<String> told = new ArrayList<>();
        List<Long> due = new ArrayList<>();
        for (String line : lines) {
            Matcher call = CALL.matcher(line);
            while (call.find()) {
                called.add(call.group(1));
            }
            Matcher answer = TOLD.matcher(line);
            if (!answer.matches()) {
                // Only what stands inside a loop, and what makes no call, may go without an answer.
                Due.isTrue("an answer behind " + line, line.startsWith(" ") || !CALL.matcher(line).find());
                source.append(line).append('\n');
                continue;
            }
            told.add(answer.group(3));
            due.add(Long.parseLong(answer.group(4)));
            if (answer.group(2) == null) {
                source.append("answers.add(new long[] {").append(answer.group(3)).append("});\n");
            } else {
                source.append(answer.group(1)).append(' ').append(answer.group(2)).append(" = ");
                source.append(answer.group(3)).append(";\nanswers.add(new long[] {");
                source.append(answer.group(2)).append("});\n");
            }
        }
        source.append("    }\n}\n");
        toldCalls = told.size();
        List<long[]> answers = answersOf(source.toString());
        Due.is("answers of README.md", answers.size(), told.size());
        for (int k = 0; k < answers.size() && k < told.size(); k++) {
            Due.is("README.md: " + told.get(k), answers.get(k)[0], due.get(k));
        }
    }

    private static List<long[]> answersOf(String source) throws Exception {
        List<long[]> answers = new ArrayList<>();
        Path place = Files.createTempDirectory("readme");
        try {
            Path file = place.resolve("ReadmeRun.java");
            Files.writeString(file, source, StandardCharsets.UTF_8);
            JavaCompiler compiler = ToolProvider.getSystemJavaCompiler();
            String classes = System.getProperty("java.class.path");
            int failed = compiler.run(null, null, null, "-d", place.toString(), "-cp", classes, file.toString());
            Due.is("javac of README.md's calls", failed, 0);
            if (failed == 0) {
                try (URLClassLoader loader = new URLClassLoader(new URL[] {place.toUri().toURL()})) {
                    loader.loadClass("ReadmeRun").getMethod("run", List.class).invoke(null, answers);
                }
            }
        } finally {
            remove(place);
        }
        return answers;
    }

    private static void remove(Path place) throws IOException {
        try (Stream<Path> files = Files.list(place)) {
            for (Path file : files.toList()) {
                Files.delete(file);
            }
        }
        Files.delete(place);
    }

    // ---- what it says of the tests

    private static void tests(String readme) throws IOException {
        Set<String> named = new TreeSet<>();
        Matcher name = Pattern.compile("\\b\\w+Test\\b").matcher(readme);
        while (name.find()) {
            named.add(name.group());
        }
        Set<String> there = new TreeSet<>();
        try (Stream<Path> files = Files.list(TESTS)) {
            for (Path file : files.toList()) {
                String test = file.getFileName().toString().replace(".java", "");
                if (test.endsWith("Test")) {
                    there.add(test);
                }
            }
        }
        Due.isTrue("tests named: " + named + ", tests there: " + there, named.equals(there));
        Due.isTrue("README.md tells .ci/run", blocks(readme, "sh").contains(".ci/run"));
        Due.isTrue(".ci/run can be run", Files.isExecutable(Path.of(".ci/run")));
    }
}
