import java.io.ByteArrayOutputStream;
import java.io.PrintStream;
import java.net.URL;
import java.net.URLClassLoader;
import java.nio.charset.StandardCharsets;
import java.nio.file.Files;
import java.nio.file.Path;
import java.nio.file.Paths;
import java.util.regex.Matcher;
import java.util.regex.Pattern;
import javax.tools.ToolProvider;

/**
 * The code of README.md: its first block is a method, its second a run of calls. Both are compiled as they stand,
 * each call of the run held against the answer that the comment behind it begins with.
 */
public final class ReadmeTest {
    private static final Pattern BLOCK = Pattern.compile("```java\n(.*?)```", Pattern.DOTALL);
    private static final Pattern CALL = Pattern.compile("(?m)^(desk\\.[^;]*?(?:\"[^\"]*\"[^;]*?)*);[ ]*(//.*)?$");
    private static final Pattern ANSWER = Pattern.compile("// (-?\\d+|true|false)\\b.*");
    /** The run shows something of each part of the face; far fewer calls mean that the blocks were not found. */
    private static final int LEAST_CALLS = 30;

    private static int calls = 0;
    private static int wrong = 0;

    public static void due(String call, Object got, Object want) {
        calls++;
        if (!("" + got).equals("" + want)) {
            wrong++;
            System.out.println("README: " + call + " answered " + got + ", there stands " + want);
        }
    }

    /** The run with each call turned into a question; a call without an answer behind it is wrong. */
    private static String asked(String run) {
        Matcher m = CALL.matcher(run);
        StringBuilder s = new StringBuilder();
        while (m.find()) {
            Matcher answer = ANSWER.matcher(m.group(2) == null ? "" : m.group(2));
            String want = answer.matches() ? answer.group(1) : "null";
            String name = m.group(1).replaceAll("\\s+", " ").replace("\\", "\\\\").replace("\"", "\\\"");
            String question = "ReadmeTest.due(\"" + name + "\", " + m.group(1) + ", " + want + ");";
            m.appendReplacement(s, Matcher.quoteReplacement(question));
        }
        return m.appendTail(s).toString();
    }

    private static void run(String source) throws Exception {
        Path made = Files.createTempDirectory("readme");
        Path file = made.resolve("Shown.java");
        Path shown = made.resolve("Shown.class");
        try {
            Files.write(file, source.getBytes(StandardCharsets.UTF_8));
            ByteArrayOutputStream said = new ByteArrayOutputStream();
            int failed = ToolProvider.getSystemJavaCompiler().run(null, new PrintStream(said), new PrintStream(said),
                    "-proc:none", "-cp", System.getProperty("java.class.path"), "-d", made.toString(), file.toString());
            if (failed != 0) throw new IllegalStateException("the code of README.md does not compile: " + said);
            try (URLClassLoader loader = new URLClassLoader(new URL[] {made.toUri().toURL()})) {
                loader.loadClass("Shown").getMethod("show").invoke(null);
            }
        } finally {
            Files.deleteIfExists(file);
            Files.deleteIfExists(shown);
            Files.deleteIfExists(made);
        }
    }

    public static void main(String[] args) throws Exception {
        Path readme = Paths.get(System.getProperty("readme", "README.md"));
        Matcher block = BLOCK.matcher(new String(Files.readAllBytes(readme), StandardCharsets.UTF_8));
        String method = block.find() ? block.group(1) : "";
        String run = block.find() ? block.group(1) : "";
        run("public final class Shown {\n" + method + "public static void show() {\n" + asked(run) + "}\n}\n");
        int shown = run.split("(?m)^desk\\.", -1).length - 1;
        if (shown != calls || calls < LEAST_CALLS) due("calls of README.md asked of " + shown, calls, Math.max(shown, LEAST_CALLS));
        System.out.println("ReadmeTest: " + calls + " answers, " + wrong + " wrong");
        if (wrong > 0) System.exit(1);
    }
}
