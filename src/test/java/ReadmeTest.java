import java.io.IOException;
import java.net.URL;
import java.net.URLClassLoader;
import java.nio.file.Files;
import java.nio.file.Path;
import java.util.regex.Matcher;
import java.util.regex.Pattern;
import javax.tools.ToolProvider;

/** README.md: its example, compiled and run, answers what it says, and its table has a row for every call. */
public final class ReadmeTest {
    // A statement, and behind it the number, character or error that it answers.
    private static final Pattern LINE =
        Pattern.compile("(?:int (\\w+) = )?(x\\.\\w+\\(.*\\)); *// ('.'|-?\\d+|ERR_\\w+)(?::.*)?");

    public static void main(String[] args) throws IOException, ReflectiveOperationException {
        String readme = Files.readString(Path.of("README.md"));
        Matcher block = Pattern.compile("(?s)```java\n(.*?)```").matcher(readme);
        Kit.due("an example", block.find() ? 1 : 0, 1);
        example(block.group(1));
        table(readme);
        Kit.end(ReadmeTest.class);
    }

    private static void example(String code) throws IOException, ReflectiveOperationException {
        String[] lines = code.lines().filter(line -> !line.isBlank()).toArray(String[]::new);
        int[] answers = run(lines);
        for (int i = 1; i < lines.length; i++) {
            Kit.due("README: " + lines[i], answers[2 * i - 2], answers[2 * i - 1]);
        }
    }

    /** The example as a method that answers, for each line but the first, what the call answered and what it says. */
    private static int[] run(String[] lines) throws IOException, ReflectiveOperationException {
        StringBuilder body = new StringBuilder(lines[0] + "\nint[] answers = new int[" + 2 * (lines.length - 1) + "];\n");
        for (int i = 1; i < lines.length; i++) {
            Matcher line = LINE.matcher(lines[i]);
            Kit.due("a line with its answer: " + lines[i], line.matches() ? 1 : 0, 1);
            String want = line.group(3).replace("ERR_", "TarArchive.ERR_");
            String got = line.group(1) == null ? line.group(2) : line.group(1);
            body.append(line.group(1) == null ? "" : "int " + got + " = " + line.group(2) + ";\n");
            body.append("answers[" + (2 * i - 2) + "] = " + got + ";\nanswers[" + (2 * i - 1) + "] = " + want + ";\n");
        }
        String source = "public final class Example { public static int[] answers() {\n" + body + "return answers; } }\n";
        return (int[]) compiled(source).getMethod("answers").invoke(null);
    }

    private static Class<?> compiled(String source) throws IOException, ReflectiveOperationException {
        Path folder = Files.createTempDirectory("readme");
        Path file = Files.writeString(folder.resolve("Example.java"), source);
        Path made = folder.resolve("Example.class");
        int failed = ToolProvider.getSystemJavaCompiler().run(null, null, null, "-proc:none", "-cp",
            System.getProperty("java.class.path"), "-d", folder.toString(), file.toString());
        Kit.due("the example compiles", failed, 0);
        try (URLClassLoader loader = new URLClassLoader(new URL[] {folder.toUri().toURL()})) {
            return loader.loadClass("Example");
        } finally {
            Files.deleteIfExists(made);
            Files.deleteIfExists(file);
            Files.deleteIfExists(folder);
        }
    }

    /** A row for each method of the face, and no error named that is no constant. */
    private static void table(String readme) {
        for (String line : FaceSentences.LINES) {
            if (line.startsWith("public int ")) {
                String call = line.replaceAll("public int (.*);", "$1").replace("int ", "");
                Kit.due("a row for " + call, readme.contains("\n| `" + call + "` |") ? 1 : 0, 1);
            }
            Matcher error = Pattern.compile("ERR_\\w+").matcher(line);
            if (error.find()) {
                Kit.due(error.group() + " in the table", readme.contains("`" + error.group() + "`") ? 1 : 0, 1);
            }
        }
        Matcher named = Pattern.compile("\\b(ERR|INFO|KIND|MAX)_[A-Z_]+").matcher(readme);
        while (named.find()) {
            String constant = " " + named.group() + " = ";
            Kit.due("a constant " + named.group(), FaceSentences.LINES.stream().anyMatch(l -> l.contains(constant)) ? 1 : 0, 1);
        }
    }
}
