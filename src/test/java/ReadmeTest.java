import java.io.IOException;
import java.lang.reflect.Method;
import java.net.URL;
import java.net.URLClassLoader;
import java.nio.file.Files;
import java.nio.file.Path;
import java.util.ArrayList;
import java.util.List;
import java.util.regex.Matcher;
import java.util.regex.Pattern;
import javax.tools.JavaCompiler;
import javax.tools.ToolProvider;

/** The calls that README.md shows: compiled as they stand, and their answers. Run from the project's folder. */
public final class ReadmeTest {
    private static final Due due = new Due();
    private static final Pattern BLOCK = Pattern.compile("(?s)```java\n(.*?)```");
    private static final Pattern ANSWERED = Pattern.compile("(?:int (\\w+) = )?(x\\.(\\w+)\\(.*\\)); +// (-?\\d+|NO)(?:: .*)?");

    private final List<String> calls = new ArrayList<>();
    private final List<Long> answers = new ArrayList<>();
    private final List<String> names = new ArrayList<>();
    private final StringBuilder body = new StringBuilder();

    public static void main(String[] args) throws Exception {
        ReadmeTest test = new ReadmeTest();
        test.take(Files.readString(Path.of("README.md")));
        test.compare(test.run());
        test.look();
        due.end();
    }

    /** Takes the lines of all blocks of Java, in their order. */
    private void take(String readme) {
        Matcher block = BLOCK.matcher(readme);
        while (block.find()) {
            for (String line : block.group(1).split("\n")) {
                takeLine(line);
            }
        }
    }

    private void takeLine(String line) {
        Matcher m = ANSWERED.matcher(line);
        if (!m.matches()) {
            // what is called in a loop tells no answer, all else does
            due.isTrue("an answer is told: " + line, !line.startsWith("x.") && !line.contains("//"));
            body.append(line).append('\n');
            return;
        }
        String call = m.group(2);
        if (m.group(1) != null) {
            body.append("int ").append(m.group(1)).append(" = ").append(call).append(";\n");
            call = m.group(1);
        }
        body.append("answers[").append(calls.size()).append("] = ").append(call).append(";\n");
        calls.add(line);
        names.add(m.group(3));
        answers.add(m.group(4).equals("NO") ? Long.MIN_VALUE : Long.parseLong(m.group(4)));
    }

    private long[] run() throws Exception {
        Path folder = Files.createTempDirectory("readme");
        Path file = folder.resolve("ReadmeCalls.java");
        Files.writeString(file, "public final class ReadmeCalls {\npublic static long[] made() {\nlong[] answers = new long["
            + calls.size() + "];\n" + body + "return answers;\n}\n}\n");
        JavaCompiler javac = ToolProvider.getSystemJavaCompiler();
        int failed = javac.run(null, System.out, System.out, "-cp", System.getProperty("java.class.path"),
            "-d", folder.toString(), file.toString());
        due.is("javac of README.md's calls", failed, 0);
        long[] got = failed == 0 ? made(folder) : new long[0];
        delete(folder);
        return got;
    }

    private static long[] made(Path folder) throws Exception {
        try (URLClassLoader loader = new URLClassLoader(new URL[] {folder.toUri().toURL()})) {
            Method made = loader.loadClass("ReadmeCalls").getMethod("made");
            return (long[]) made.invoke(null);
        }
    }

    private static void delete(Path folder) throws IOException {
        Files.deleteIfExists(folder.resolve("ReadmeCalls.class"));
        Files.deleteIfExists(folder.resolve("ReadmeCalls.java"));
        Files.deleteIfExists(folder);
    }

    private void compare(long[] got) {
        for (int i = 0; i < got.length; i++) {
            due.is(calls.get(i), got[i], answers.get(i));
        }
    }

    /** README.md is to show ordinary calls, and each answer of one that is refused. */
    private void look() {
        due.isTrue("some calls are shown", calls.size() >= 40);
        for (long refusal : new long[] {-1, -2, -3, -4, -10001, -11, -12, -13, -14, -5, Long.MIN_VALUE}) {
            due.isTrue("a call that answers " + refusal + " is shown", answers.contains(refusal));
        }
        for (String name : new String[] {"bag", "ride", "hall", "owner", "image", "undo", "act", "tape", "judge"}) {
            due.isTrue("a call of " + name + " is shown", names.contains(name));
        }
    }
}
