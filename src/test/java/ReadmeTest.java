import java.lang.reflect.Method;
import java.lang.reflect.Modifier;
import java.net.URL;
import java.net.URLClassLoader;
import java.nio.charset.StandardCharsets;
import java.nio.file.Files;
import java.nio.file.Path;
import java.util.ArrayList;
import java.util.List;
import java.util.regex.Matcher;
import java.util.regex.Pattern;
import javax.tools.JavaCompiler;
import javax.tools.ToolProvider;

/**
 * README.md's examples, compiled and run as they stand there, answer as it says, and show every call of the class. The
 * program's path is the first argument: README.md is found from it.
 */
public final class ReadmeTest {
    private static final Pattern BLOCK = Pattern.compile("(?s)```java\\n(.*?)```");
    private static final Pattern EXAMPLE = Pattern.compile("\\s*((?:x|new RopedBells\\(\\))\\.\\w+\\(.*\\));\\s+// (.*)");
    private static final Pattern ANSWER = Pattern.compile("(-?\\d+|[A-Z]+)\\b.*");
    private static final String NAME = "ReadmeExamples";

    private static final Check c = new Check("ReadmeTest");
    private static int examples;

    public static void main(String[] args) throws Exception {
        Path root = Path.of(args[0]).toRealPath().getParent().getParent().getParent().getParent();
        String shown = shownCode(Files.readString(root.resolve("README.md"), StandardCharsets.UTF_8));
        showsEveryCall(shown);
        String source = asClass(shown);
        Path dir = Files.createDirectories(root.resolve("build/readme"));
        Path file = Files.writeString(dir.resolve(NAME + ".java"), source, StandardCharsets.UTF_8);
        c.due("the compiler's exit code", compile(file, dir), 0);
        List<String> wrong = new ArrayList<>();
        c.due("examples that were run", run(dir, wrong), examples);
        c.due("examples that answer otherwise " + wrong, wrong.size(), 0);
        c.end();
    }

    private static String shownCode(String readme) {
        StringBuilder all = new StringBuilder();
        Matcher block = BLOCK.matcher(readme);
        while (block.find()) {
            all.append(block.group(1));
        }
        return all.toString();
    }

    private static void showsEveryCall(String shown) {
        for (Method m : RopedBells.class.getDeclaredMethods()) {
            if (Modifier.isPublic(m.getModifiers())) {
                c.due("an example shows " + m.getName(), shown.contains("." + m.getName() + "(") ? 1 : 0, 1);
            }
        }
    }

    private static String asClass(String shown) {
        StringBuilder s = new StringBuilder("public final class " + NAME + " {\n"
            + "private static int looked;\n"
            + "private static void due(java.util.List<String> wrong, String call, long got, long want) {\n"
            + "looked++;\n"
            + "if (got != want) { wrong.add(call + \" answered \" + got); }\n"
            + "}\n"
            + "public static int run(java.util.List<String> wrong) {\n");
        for (String line : shown.split("\n")) {
            s.append(asLookedAt(line)).append('\n');
        }
        return s.append("return looked;\n}\n}\n").toString();
    }

    /** A line that tells an answer becomes one that looks at it; another one stays as it is. */
    private static String asLookedAt(String line) {
        Matcher example = EXAMPLE.matcher(line);
        if (!example.matches()) {
            return line;
        }
        examples++;
        Matcher answer = ANSWER.matcher(example.group(2));
        boolean told = answer.matches();
        c.due("an answer is told: " + line.trim(), told ? 1 : 0, 1);
        String want = told ? answer.group(1) : "0";
        return "due(wrong, \"" + example.group(1) + "\", " + example.group(1) + ", "
            + (Character.isLetter(want.charAt(0)) ? "RopedBells." : "") + want + ");";
    }

    private static int compile(Path file, Path dir) {
        JavaCompiler compiler = ToolProvider.getSystemJavaCompiler();
        return compiler.run(null, null, null, "--release", "17", "-cp", System.getProperty("java.class.path"),
            "-d", dir.toString(), file.toString());
    }

    private static int run(Path dir, List<String> wrong) throws Exception {
        try (URLClassLoader loader = new URLClassLoader(new URL[] {dir.toUri().toURL()})) {
            return (int) loader.loadClass(NAME).getMethod("run", List.class).invoke(null, wrong);
        }
    }
}
