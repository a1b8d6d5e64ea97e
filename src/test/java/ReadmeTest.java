import java.net.URL;
import java.net.URLClassLoader;
import java.nio.file.Files;
import java.nio.file.Path;
import java.util.regex.Matcher;
import java.util.regex.Pattern;
import javax.tools.ToolProvider;

/** README's lines compile, and every answer that they name is the one that is due. */
public final class ReadmeTest {
    private static final Check CHECK = new Check("ReadmeTest");
    private static final Pattern BLOCK = Pattern.compile("(?s)```java\n(.*?)```");
    private static final Pattern ANSWERED = Pattern.compile("(x\\.\\w+\\(.*\\)); +// (-?\\d+)\\b.*");

    public static void main(String[] args) throws Exception {
        Matcher block = BLOCK.matcher(Files.readString(Path.of("README.md")));
        CHECK.isTrue("README has lines of Java", block.find());
        String[] lines = block.group(1).split("\n");
        Path folder = Files.createTempDirectory("readme");
        folder.toFile().deleteOnExit();
        compile(folder, asProgram(lines));
        try (URLClassLoader loader = new URLClassLoader(new URL[] {folder.toUri().toURL()})) {
            long[] answers = (long[]) loader.loadClass("Shown").getMethod("answers").invoke(null);
            compare(lines, answers);
        }
        CHECK.end();
    }

    /** The lines, each answer that one of them names being kept. */
    private static String asProgram(String[] lines) {
        StringBuilder program = new StringBuilder("public class Shown {\n"
                + "    private static final long[] KEPT = new long[1000];\n"
                + "    private static int count;\n"
                + "    private static int kept(long v) { KEPT[count++] = v; return (int) v; }\n"
                + "    public static long[] answers() {\n");
        for (String line : lines) {
            program.append(ANSWERED.matcher(line).replaceAll("kept($1);")).append('\n');
        }
        return program.append("return java.util.Arrays.copyOf(KEPT, count);\n}\n}\n").toString();
    }

    private static void compile(Path folder, String program) throws Exception {
        Path file = folder.resolve("Shown.java");
        file.toFile().deleteOnExit();
        folder.resolve("Shown.class").toFile().deleteOnExit();
        Files.writeString(file, program);
        CHECK.due("README's lines compile", ToolProvider.getSystemJavaCompiler().run(null, null,
                null, "-cp", System.getProperty("java.class.path"), "-d", folder.toString(),
                file.toString()), 0);
    }

    private static void compare(String[] lines, long[] answers) {
        int count = 0;
        for (String line : lines) {
            Matcher m = ANSWERED.matcher(line);
            if (m.find() && count < answers.length) {
                CHECK.due("README: " + m.group(1), answers[count], Long.parseLong(m.group(2)));
                count++;
            } else {
                CHECK.isTrue("README: no answer of this line is lost: " + line,
                        !line.matches(".*x\\..*//.*"));
            }
        }
        CHECK.due("README: all answers are looked at", count, answers.length);
    }
}
