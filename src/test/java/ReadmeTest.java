import java.io.IOException;
import java.lang.reflect.Method;
import java.lang.reflect.Modifier;
import java.net.URL;
import java.net.URLClassLoader;
import java.nio.file.Files;
import java.nio.file.Path;
import java.util.ArrayList;
import java.util.List;
import java.util.regex.Matcher;
import java.util.regex.Pattern;
import javax.tools.JavaCompiler;
import javax.tools.ToolProvider;

/** The code in README.md compiles, each of its calls answers the number behind it, and no call of the face is left out. */
public final class ReadmeTest {
    private static final Check CHECK = new Check();
    private static final Pattern BLOCK = Pattern.compile("(?s)```java\n(.*?)```");
    private static final Pattern CALL = Pattern.compile("(x\\.(\\w+)\\([^;]*\\)); +// (-?\\d+)\\b.*");

    public static void main(String[] args) throws IOException, ReflectiveOperationException {
        String readme = Files.readString(Path.of("README.md"));
        Matcher block = BLOCK.matcher(readme);
        CHECK.at("README.md");
        CHECK.holds("first the method that puts a text on the tape", block.find());
        String helper = block.group(1);
        CHECK.holds("then calls", block.find());
        List<String> calls = new ArrayList<>();
        List<Long> due = new ArrayList<>();
        String body = rewritten(block.group(1), calls, due);
        long[] answers = run(helper, body, calls.size());
        for (int i = 0; i < answers.length; i++) {
            CHECK.due(calls.get(i), answers[i], due.get(i));
        }
        for (Method m : TakeOrPay.class.getDeclaredMethods()) {
            if (Modifier.isPublic(m.getModifiers())) {
                CHECK.holds(m.getName() + "() is there", readme.contains("x." + m.getName() + "("));
            }
        }
        CHECK.finish();
    }

    /** Lines with a number behind a call keep the call's answer; all others are as they are. */
    private static String rewritten(String body, List<String> calls, List<Long> due) {
        StringBuilder text = new StringBuilder();
        for (String line : body.split("\n")) {
            Matcher call = CALL.matcher(line);
            if (call.matches()) {
                text.append("answers[").append(calls.size()).append("] = ").append(call.group(1)).append(";\n");
                calls.add(call.group(1));
                due.add(Long.parseLong(call.group(3)));
            } else {
                CHECK.holds("a call has its answer behind it: " + line, !line.startsWith("x."));
                text.append(line).append('\n');
            }
        }
        return text.toString();
    }

    private static long[] run(String helper, String body, int many) throws IOException, ReflectiveOperationException {
        Path room = Files.createTempDirectory("readme");
        Path file = room.resolve("ReadmeRun.java");
        Files.writeString(file, "public final class ReadmeRun {\n" + helper + "public static void run(long[] answers) {\n" + body + "}\n}\n");
        JavaCompiler javac = ToolProvider.getSystemJavaCompiler();
        int code = javac.run(null, null, null, "-cp", System.getProperty("java.class.path"), "-d", room.toString(), file.toString());
        CHECK.due("compiling README.md", code, 0);
        long[] answers = new long[many];
        try (URLClassLoader loader = new URLClassLoader(new URL[] {room.toUri().toURL()}, ReadmeTest.class.getClassLoader())) {
            loader.loadClass("ReadmeRun").getMethod("run", long[].class).invoke(null, answers);
        } finally {
            Files.deleteIfExists(room.resolve("ReadmeRun.class"));
            Files.delete(file);
            Files.delete(room);
        }
        return answers;
    }
}
