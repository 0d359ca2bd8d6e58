import java.io.IOException;
import java.lang.reflect.InvocationTargetException;
import java.lang.reflect.Method;
import java.lang.reflect.Modifier;
import java.net.URL;
import java.net.URLClassLoader;
import java.nio.file.Files;
import java.nio.file.Path;
import java.util.ArrayList;
import java.util.List;
import java.util.regex.Matcher;
import java.util.regex.Pattern;
import java.util.stream.Stream;
import javax.tools.JavaCompiler;
import javax.tools.ToolProvider;

/**
 * What README.md shows: its blocks of calls, compiled as they stand there, each call with the answer
 * that its comment gives; the values of the constants; the names of the tests.
 */
public final class ReadmeTest {
    private static final Check check = new Check("ReadmeTest");

    private static final Pattern BLOCK = Pattern.compile("(?s)```java\n(.*?)```");
    private static final Pattern MADE = Pattern.compile("LeastChanges \\w+ = new LeastChanges\\(.*\\); +// .+");
    /** A call, perhaps with the variable that takes its answer, and the answer up to a colon or the end. */
    private static final Pattern CALL = Pattern.compile("(int (\\w+) = )?(\\w+\\.\\w+\\(.*\\)); +// ([^ :]+)(: .+)?");
    private static final Pattern CONSTANT = Pattern.compile("`([A-Z]+)` \\((-?\\d+)\\)");

    private final List<String> calls = new ArrayList<>();
    private final List<String> due = new ArrayList<>();

    public static void main(String[] args) throws Exception {
        String readme = Files.readString(Path.of("README.md"));
        new ReadmeTest().callsOf(readme);
        constantsOf(readme);
        testsOf(readme);
        check.end();
    }

    private void callsOf(String readme) throws Exception {
        check.part("calls");
        String program = programOf(readme);
        for (Method method : LeastChanges.class.getDeclaredMethods()) {
            if (Modifier.isPublic(method.getModifiers())) {
                String name = "." + method.getName() + "(";
                check.holds("no call shows " + name, calls.stream().anyMatch(call -> call.contains(name)));
            }
        }
        List<Object> answers = answersOf(program);
        check.due("the number of answers", answers.size(), due.size());
        for (int i = 0; i < Math.min(answers.size(), due.size()); i++) {
            String got = String.valueOf(answers.get(i));
            check.holds(calls.get(i) + " answered " + got + ", README.md says " + due.get(i), got.equals(due.get(i)));
        }
    }

    /** All blocks as one program that collects the answers. */
    private String programOf(String readme) {
        StringBuilder program = new StringBuilder("public final class ReadmeCalls {\n"
                + "public static void collect(java.util.List<Object> answers) {\n");
        Matcher block = BLOCK.matcher(readme);
        while (block.find()) {
            program.append("{\n");
            for (String line : block.group(1).split("\n")) {
                program.append(lineOf(line)).append('\n');
            }
            program.append("}\n");
        }
        return program.append("}\n}\n").toString();
    }

    private String lineOf(String line) {
        Matcher call = CALL.matcher(line);
        if (!call.matches()) {
            check.holds("neither an object nor a call with its answer: " + line, MADE.matcher(line).matches());
            return line;
        }
        calls.add(call.group(3));
        due.add(call.group(4));
        String variable = call.group(2);
        return variable == null ? "answers.add(" + call.group(3) + ");" : line + "\nanswers.add(" + variable + ");";
    }

    private static List<Object> answersOf(String program) throws Exception {
        List<Object> answers = new ArrayList<>();
        Path folder = Files.createTempDirectory("readme");
        try {
            Path source = Files.writeString(folder.resolve("ReadmeCalls.java"), program);
            JavaCompiler compiler = ToolProvider.getSystemJavaCompiler();
            int code = compiler.run(null, null, null, "--release", "17", "-d", folder.toString(),
                    "-cp", System.getProperty("java.class.path"), source.toString());
            check.due("javac of the calls", code, 0);
            if (code == 0) {
                collect(folder, answers);
            }
        } finally {
            remove(folder);
        }
        return answers;
    }

    private static void collect(Path folder, List<Object> answers) throws Exception {
        try (URLClassLoader loader = new URLClassLoader(new URL[] {folder.toUri().toURL()})) {
            loader.loadClass("ReadmeCalls").getMethod("collect", List.class).invoke(null, answers);
        } catch (InvocationTargetException thrown) {
            check.holds("a call throws " + thrown.getCause(), false);
        }
    }

    private static void remove(Path folder) throws IOException {
        try (Stream<Path> files = Files.list(folder)) {
            for (Path file : files.toList()) {
                Files.delete(file);
            }
        }
        Files.delete(folder);
    }

    private static void constantsOf(String readme) throws Exception {
        check.part("constants");
        List<String> names = new ArrayList<>();
        Matcher constant = CONSTANT.matcher(readme);
        while (constant.find()) {
            String name = constant.group(1);
            names.add(name);
            check.due(name, LeastChanges.class.getField(name).getInt(null), Integer.parseInt(constant.group(2)));
        }
        check.holds("all constants are told: " + names, names.containsAll(List.of("NONE", "FULL", "SPENT")));
    }

    private static void testsOf(String readme) throws IOException {
        check.part("tests");
        check.holds("it says how to run the tests", readme.contains("\n    .ci/run\n"));
        try (Stream<Path> files = Files.list(Path.of("src/test/java"))) {
            for (Path file : files.toList()) {
                String name = file.getFileName().toString().replace(".java", "");
                check.holds(name + " is told", !name.endsWith("Test") || readme.contains("`" + name + "`"));
            }
        }
    }
}
