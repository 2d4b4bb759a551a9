import java.io.IOException;
import java.lang.reflect.Method;
import java.lang.reflect.Modifier;
import java.net.URL;
import java.net.URLClassLoader;
import java.nio.file.Files;
import java.nio.file.Path;
import java.util.ArrayList;
import java.util.List;
import java.util.regex.Matcher;
import java.util.regex.Pattern;
import java.util.stream.Stream;

/** What README.md says of answers and of tests is so. */
public final class ReadmeTest {
    private static final Path README = Path.of("README.md"), TESTS = Path.of("src/test/java");
    private static final Pattern BLOCK = Pattern.compile("(?s)```java\n(.*?)```");
    private static final Pattern CALL = Pattern.compile("(x\\.\\w+\\(.*?\\)); +// (-?\\d+|LOST)(:.*)?");

    private final Due due = new Due("ReadmeTest");
    private final List<String> calls = new ArrayList<>();
    private final List<Long> answers = new ArrayList<>();

    public static void main(String[] args) throws Exception {
        ReadmeTest test = new ReadmeTest();
        String readme = Files.readString(README);
        String example = test.exampleOf(readme);
        Path build = Files.createTempDirectory("readme");
        try {
            test.isSo(example, build);
        } finally {
            deleteAll(build);
        }
        test.allCallsAreShown();
        test.testsAreTold(readme);
        test.due.end();
    }

    /** A class whose method answers makes the calls of README.md and hands out what they answer. */
    private String exampleOf(String readme) {
        StringBuilder body = new StringBuilder();
        Matcher blocks = BLOCK.matcher(readme);
        while (blocks.find()) {
            for (String line : blocks.group(1).split("\n")) {
                body.append(line.startsWith("x.") ? kept(line) : line).append('\n');
            }
        }
        return "public class Example {\n public static long[] answers() {\n long[] kept = new long[" + calls.size()
                + "];\n" + body + "return kept;\n }\n}\n";
    }

    private String kept(String line) {
        Matcher call = CALL.matcher(line);
        boolean tells = call.matches();
        due.isTrue("an answer is told: " + line, tells);
        if (!tells) {
            return line;
        }
        calls.add(call.group(1));
        answers.add(call.group(2).equals("LOST") ? Long.MIN_VALUE : Long.parseLong(call.group(2)));
        return "kept[" + (calls.size() - 1) + "] = " + call.group(1) + ";";
    }

    private void isSo(String example, Path build) throws Exception {
        due.promise("the example");
        Path source = Files.writeString(build.resolve("Example.java"), example);
        int code = new ProcessBuilder("javac", "-d", build.toString(), "-cp", System.getProperty("java.class.path"),
                source.toString()).inheritIO().start().waitFor();
        due.is("javac", code, 0);
        due.endIfWrong();
        try (URLClassLoader loader = new URLClassLoader(new URL[] {build.toUri().toURL()})) {
            long[] got = (long[]) loader.loadClass("Example").getMethod("answers").invoke(null);
            for (int c = 0; c < got.length; c++) {
                due.is(calls.get(c), got[c], answers.get(c));
            }
        }
    }

    private void allCallsAreShown() {
        due.promise("calls that are shown");
        String shown = calls.toString();
        for (Method method : ChairBallot.class.getDeclaredMethods()) {
            if (Modifier.isPublic(method.getModifiers())) {
                due.isTrue(method.getName(), shown.contains("x." + method.getName() + "("));
            }
        }
    }

    private void testsAreTold(String readme) throws IOException {
        due.promise("the tests");
        try (Stream<Path> files = Files.list(TESTS)) {
            for (Path file : files.sorted().toList()) {
                String name = file.getFileName().toString().replace(".java", "");
                due.isTrue(name + " is told", readme.contains("`" + name + "`"));
            }
        }
        Matcher told = Pattern.compile("`([A-Z]\\w+Test)`").matcher(readme);
        while (told.find()) {
            due.isTrue(told.group(1) + " is there", Files.exists(TESTS.resolve(told.group(1) + ".java")));
        }
    }

    private static void deleteAll(Path build) throws IOException {
        try (Stream<Path> files = Files.list(build)) {
            for (Path file : files.toList()) {
                Files.delete(file);
            }
        }
        Files.delete(build);
    }
}
