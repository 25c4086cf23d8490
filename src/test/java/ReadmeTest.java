import java.io.IOException;
import java.lang.reflect.Method;
import java.lang.reflect.Modifier;
import java.net.URL;
import java.net.URLClassLoader;
import java.nio.file.Files;
import java.nio.file.Path;
import java.util.ArrayList;
import java.util.Comparator;
import java.util.List;
import java.util.function.BiConsumer;
import java.util.regex.Matcher;
import java.util.regex.Pattern;
import java.util.stream.Stream;
import javax.tools.JavaCompiler;
import javax.tools.ToolProvider;

/** What README.md says is so: its code is compiled and run, and it leaves out no method and no test. */
public final class ReadmeTest {
    private static final Path README = Path.of("README.md");
    private static final Path TESTS = Path.of("src", "test", "java");
    private static final Pattern BLOCK = Pattern.compile("```java\n(.*?)```", Pattern.DOTALL);
    private static final Pattern TOLD = Pattern.compile("(x\\..*\\));\\s*// (-?\\d+|true|false)(:.*)?");
    private static final int TOLD_LIMIT = 512;

    private ReadmeTest() {
    }

    public static void main(String[] args) throws Exception {
        Tester test = new Tester("ReadmeTest");
        String readme = Files.readString(README);
        List<String> blocks = blocks(readme);
        test.due("blocks of code", blocks.size(), 2);
        if (blocks.size() == 2) {
            everyCallIsTold(test, blocks.get(1));
            runExample(test, blocks);
        }
        everyMethodIsShown(test, readme);
        everyTestIsNamed(test, readme);
        test.due(".ci/run can be run", Files.isExecutable(Path.of(".ci", "run")), true);
        test.end();
    }

    private static List<String> blocks(String readme) {
        List<String> blocks = new ArrayList<>();
        Matcher matcher = BLOCK.matcher(readme);
        while (matcher.find()) {
            blocks.add(matcher.group(1));
        }
        return blocks;
    }

    private static void everyCallIsTold(Tester test, String code) {
        int calls = 0;
        for (String line : code.split("\n")) {
            if (line.startsWith("x.")) {
                calls++;
                test.due("an answer stands behind " + line, TOLD.matcher(line).matches(), true);
            }
        }
        test.due("calls are few enough for one object: " + calls, calls > 0 && calls < TOLD_LIMIT, true);
    }

    private static void runExample(Tester test, List<String> blocks) throws Exception {
        JavaCompiler compiler = ToolProvider.getSystemJavaCompiler();
        Path directory = Files.createTempDirectory("readme");
        try {
            Path source = directory.resolve("ReadmeExample.java");
            Files.writeString(source, program(blocks.get(0), blocks.get(1)));
            String classes = System.getProperty("java.class.path");
            int failed = compiler.run(null, null, null, "-cp", classes, "-d", directory.toString(), source.toString());
            test.due("the code of README.md compiles", failed, 0);
            if (failed == 0) {
                call(test, directory);
            }
        } finally {
            remove(directory);
        }
    }

    private static void call(Tester test, Path directory) throws Exception {
        URL[] places = {directory.toUri().toURL()};
        try (URLClassLoader loader = new URLClassLoader(places, ReadmeTest.class.getClassLoader())) {
            BiConsumer<String, Object[]> due = (what, pair) -> test.due(what, number(pair[0]), number(pair[1]));
            Class<?> example = loader.loadClass("ReadmeExample");
            example.getMethod("run", BiConsumer.class).invoke(null, due);
        }
    }

    private static long number(Object answer) {
        if (answer instanceof Boolean) {
            return (Boolean) answer ? 1 : 0;
        }
        return ((Number) answer).longValue();
    }

    /** Each call with an answer behind it becomes a question whether it is due. */
    private static String program(String helpers, String code) {
        StringBuilder program = new StringBuilder("import java.util.function.BiConsumer;\npublic class ReadmeExample {\n");
        program.append(helpers).append("public static void run(BiConsumer<String, Object[]> due) {\n");
        for (String line : code.split("\n")) {
            Matcher matcher = TOLD.matcher(line);
            if (matcher.matches()) {
                String call = matcher.group(1);
                program.append("due.accept(\"").append(call).append("\", new Object[] {").append(call).append(", ");
                program.append(matcher.group(2)).append("});\n");
            } else {
                program.append(line).append("\n");
            }
        }
        return program.append("}\n}\n").toString();
    }

    private static void remove(Path directory) throws IOException {
        try (Stream<Path> files = Files.walk(directory)) {
            for (Path file : files.sorted(Comparator.reverseOrder()).toList()) {
                Files.delete(file);
            }
        }
    }

    private static void everyMethodIsShown(Tester test, String readme) {
        for (Method method : NoEcho.class.getDeclaredMethods()) {
            if (Modifier.isPublic(method.getModifiers())) {
                test.due("shows " + method.getName(), readme.contains("x." + method.getName() + "("), true);
            }
        }
    }

    private static void everyTestIsNamed(Tester test, String readme) throws IOException {
        try (Stream<Path> files = Files.list(TESTS)) {
            for (Path file : files.toList()) {
                String name = file.getFileName().toString().replace(".java", "");
                if (name.endsWith("Test")) {
                    test.due("tells of " + name, readme.contains("\n- `" + name + "`: "), true);
                }
            }
        }
        Matcher named = Pattern.compile("\n- `(\\w+)`: ").matcher(readme);
        while (named.find()) {
            test.due("there is a " + named.group(1), Files.exists(TESTS.resolve(named.group(1) + ".java")), true);
        }
    }
}
