import java.nio.charset.StandardCharsets;
import java.nio.file.Files;
import java.nio.file.Path;
import java.util.Set;
import java.util.TreeSet;
import java.util.regex.Matcher;
import java.util.regex.Pattern;

/** Words and calls that LANGUAGE.md rules out do not stand in the program; its path is the first argument. */
public final class LanguageTest {
    private static final String[] RULED_OUT = {
        "throw", "throws", "try", "catch", "finally", "synchronized", "assert", "package", "protected", "volatile",
        "Object", "Random", "System\\.(?!arraycopy)\\w+", "Thread", "equals", "hashCode", "toString", "\\w+Exact",
        "instanceof", "var", "native", "strictfp", "transient"};
    private static final Set<String> LIBRARY = Set.of(
        "Arrays.fill", "Integer.bitCount", "Math.max", "System.arraycopy", "Long.MIN_VALUE");

    private static final Check c = new Check("LanguageTest");

    public static void main(String[] args) throws Exception {
        String source = Files.readString(Path.of(args[0]), StandardCharsets.UTF_8);
        c.due("signs beyond ASCII", source.chars().filter(s -> s > 126).count(), 0);
        String code = source.replaceAll("//.*", "").replaceAll("(?s)/\\*.*?\\*/", "");
        for (String word : RULED_OUT) {
            c.due("'" + word + "'", count(code, "\\b" + word + "\\b"), 0);
        }
        c.due("lambdas", count(code, "->"), 0);
        c.due("method references", count(code, "::"), 0);
        c.due("static blocks", count(code, "static\\s*\\{"), 0);
        c.due("texts", count(code, "\""), 0);
        c.due("imports", count(code, "\\bimport\\b"), count(code, "\\bimport java\\.util\\.Arrays;"));
        c.due("static fields that are not final", count(code, "\\bstatic (?!final|int \\w+\\(|boolean \\w+\\()"), 0);
        usesOnlyTheLibrary(code);
        methodsAreShort(code);
        madeWithTheObjectOnly(code);
        c.end();
    }

    private static int count(String code, String pattern) {
        Matcher m = Pattern.compile(pattern).matcher(code);
        int count = 0;
        while (m.find()) {
            count++;
        }
        return count;
    }

    private static void usesOnlyTheLibrary(String code) {
        Set<String> used = new TreeSet<>();
        Matcher m = Pattern.compile("(?<![\\w.])[A-Z]\\w*\\.\\w+").matcher(code);
        while (m.find()) {
            used.add(m.group());
        }
        used.removeAll(LIBRARY);
        c.due("of the library, beyond what is known to be told: " + used, used.size(), 0);
    }

    /** All calls of one run share one room: rows are made with the object and used again, none in a call. */
    private static void madeWithTheObjectOnly(String code) {
        for (String line : code.split("\n")) {
            boolean made = line.matches(".*\\bnew\\b.*");
            boolean withTheObject = line.matches("\\s*(private )?final [^(]* = new .*;")
                || line.trim().equals("sheets[k] = new Sheet();");
            c.due("made in a call: " + line.trim(), made && !withTheObject ? 1 : 0, 0);
        }
    }

    private static void methodsAreShort(String code) {
        int start = -1;
        String[] lines = code.split("\n");
        for (int k = 0; k < lines.length; k++) {
            if (lines[k].matches(" {4}(?: {4})?[^ }].*\\) \\{")) {
                start = k;
            }
            if (start >= 0 && lines[k].matches(" {4}(?: {4})?\\}")) {
                c.due("lines of the method at '" + lines[start].trim() + "' above 60", Math.max(k - start - 59, 0), 0);
                start = -1;
            }
        }
    }
}
