import java.nio.charset.StandardCharsets;
import java.nio.file.Files;
import java.nio.file.Path;
import java.util.Set;
import java.util.TreeSet;
import java.util.regex.Matcher;
import java.util.regex.Pattern;

/** Words and calls that LANGUAGE.md rules out do not stand in the program; its path is the first argument. */
public final class LanguageTest {
    private static final String[] RULED_OUT = {
        "throw", "throws", "try", "catch", "finally", "synchronized", "assert", "package", "protected", "volatile",
        "native", "strictfp", "transient", "Object", "Random", "Thread", "\\w+Exact", "System\\.(?!arraycopy)\\w+",
        "boolean equals", "int hashCode", "String toString"};
    private static final Pattern LIBRARY = Pattern.compile(
        "Arrays\\.(fill|copyOf|copyOfRange)|System\\.arraycopy|List\\.of|(Integer|Long|Math)\\.\\w+");
    private static final int LONGEST_METHOD = 65;

    private static final Check c = new Check("LanguageTest");

    public static void main(String[] args) throws Exception {
        String source = Files.readString(Path.of(args[0]), StandardCharsets.UTF_8);
        c.due("signs beyond ASCII", source.chars().filter(s -> s > 126).count(), 0);
        String code = source.replaceAll("//.*", "").replaceAll("(?s)/\\*.*?\\*/", "");
        for (String word : RULED_OUT) {
            c.due("'" + word + "'", count(code, "\\b" + word + "\\b"), 0);
        }
        c.due("lambdas", count(code.replaceAll("(case [^:;{}]*?|default) ->", ""), "->"), 0);
        c.due("method references", count(code, "::"), 0);
        c.due("static blocks", count(code, "static\\s*\\{"), 0);
        c.due("imports", count(code, "\\bimport\\b"),
            count(code, "\\bimport java\\.util\\.(Arrays|ArrayList|List|Iterator);"));
        c.due("static fields that are not final",
            count(code, "\\bstatic (?!final|class|abstract|record|enum|interface)[\\w<>\\[\\], ]+ \\w+( =[^=]|;)"), 0);
        usesOnlyTheLibrary(code);
        methodsAreShort(code);
        c.end();
    }

    private static int count(String code, String pattern) {
        return found(code, pattern).size();
    }

    private static Set<String> found(String code, String pattern) {
        Set<String> found = new TreeSet<>();
        Matcher m = Pattern.compile(pattern).matcher(code);
        while (m.find()) {
            found.add(m.start() + ": " + m.group());
        }
        return found;
    }

    private static void usesOnlyTheLibrary(String code) {
        Set<String> own = new TreeSet<>();
        Matcher declared = Pattern.compile("\\b(?:class|enum|record|interface) (\\w+)").matcher(code);
        while (declared.find()) {
            own.add(declared.group(1));
        }
        Set<String> unknown = new TreeSet<>();
        Matcher m = Pattern.compile("(?<![\\w.])([A-Z]\\w*[a-z]\\w*)\\.\\w+").matcher(code);
        while (m.find()) {
            if (!own.contains(m.group(1)) && !LIBRARY.matcher(m.group()).matches()) {
                unknown.add(m.group());
            }
        }
        c.due("of the library, beyond what is told: " + unknown, unknown.size(), 0);
    }

    private static void methodsAreShort(String code) {
        Matcher m = Pattern.compile("(?m)^ *(?!return|else|new)[\\w<>\\[\\] ]+ (?!if|for|while|switch)\\w+\\([^()]*\\) \\{$")
            .matcher(code);
        int methods = 0;
        while (m.find()) {
            methods++;
            int end = m.end();
            for (int open = 1; open > 0 && end < code.length(); end++) {
                open += code.charAt(end) == '{' ? 1 : code.charAt(end) == '}' ? -1 : 0;
            }
            long lines = code.substring(m.start(), end).lines().count();
            c.due("lines of '" + m.group().trim() + "' above " + LONGEST_METHOD, Math.max(lines - LONGEST_METHOD, 0), 0);
        }
        c.due("methods are found", methods > 32 ? 1 : 0, 1);
    }
}
