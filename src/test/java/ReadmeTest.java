import java.io.IOException;
import java.lang.reflect.InvocationTargetException;
import java.net.URL;
import java.net.URLClassLoader;
import java.nio.file.Files;
import java.nio.file.Path;
import java.util.regex.Matcher;
import java.util.regex.Pattern;
import javax.tools.ToolProvider;

/** Runs the code of README.md: each line there that tells an answer must get it. */
public final class ReadmeTest {
    private static final Pattern ANSWERED =
            Pattern.compile("(?<name>int \\w+ = )?(?<call>x\\.[^;]*);\\s*// answers (?<want>-?\\w+)(:.*)?");

    private static int told;

    private ReadmeTest() {
    }

    public static void main(String[] args) throws Exception {
        Path readme = Path.of(System.getProperty("readme", "README.md"));
        Path made = Files.createTempDirectory("readme");
        Path source = made.resolve("ReadmeRun.java");
        Files.writeString(source, program(Files.readString(readme)));
        int failed = ToolProvider.getSystemJavaCompiler().run(null, null, null, "-cp",
                System.getProperty("java.class.path"), "-d", made.toString(), source.toString());
        Check.due("the code of README.md compiles", 0, () -> failed);
        if (failed == 0) {
            go(made);
        }
        Check.holds("README.md tells answers", () -> Check.truth(told > 0));
        clear(made);
        Check.done("ReadmeTest");
    }

    /** What the code of README.md calls for each answer that it tells. */
    public static void due(String line, Object want, Object got) {
        Check.same(line, String.valueOf(want), String.valueOf(got));
    }

    private static String program(String readme) {
        StringBuilder text = new StringBuilder("public final class ReadmeRun {\n");
        for (String constant : new String[] {"ACT", "TIMER", "WAIT", "CHILD", "SIDE", "SKIP", "BACK", "SET", "ADD",
            "UNDO", "MARK", "GUARD", "TELL", "FAIL", "AGAIN", "END", "RUNNING", "ENDED", "FAILED", "CANCELLED",
            "STOPPED", "NONE", "MISMATCH"}) {
            text.append("static final int ").append(constant).append(" = Flowkeeper.").append(constant).append(";\n");
        }
        text.append("public static void go() {\n");
        boolean isCode = false;
        for (String line : readme.split("\n")) {
            if (line.startsWith("```")) {
                isCode = line.equals("```java");
                text.append(isCode ? "{\n" : "}\n");
            } else if (isCode) {
                text.append(checked(line)).append('\n');
            }
        }
        return text.append("}\n}\n").toString();
    }

    private static String checked(String line) {
        Matcher answered = ANSWERED.matcher(line);
        if (!answered.matches()) {
            // A line whose answer is told in another form would go unchecked.
            Check.holds("can be read: " + line, () -> Check.truth(!line.contains("answers")));
            return line;
        }
        told++;
        String name = answered.group("name");
        String got = name == null ? answered.group("call") : name.substring("int ".length(), name.indexOf(" ="));
        return (name == null ? "" : line + "\n")
                + "ReadmeTest.due(\"" + answered.group("call") + "\", " + answered.group("want") + ", " + got + ");";
    }

    private static void go(Path made) throws Exception {
        try (URLClassLoader loader = new URLClassLoader(new URL[] {made.toUri().toURL()})) {
            loader.loadClass("ReadmeRun").getMethod("go").invoke(null);
        } catch (InvocationTargetException e) {
            Check.same("the code of README.md", "nothing thrown", String.valueOf(e.getCause()));
        }
    }

    private static void clear(Path made) throws IOException {
        try (var files = Files.list(made)) {
            for (Path file : files.toList()) {
                Files.delete(file);
            }
        }
        Files.delete(made);
    }
}
