import java.io.IOException;
import java.nio.charset.StandardCharsets;
import java.nio.file.Files;
import java.nio.file.Paths;
import java.util.regex.Matcher;
import java.util.regex.Pattern;

/** What a look at the source can tell of LANGUAGE.md; started in the folder of the project. */
public final class LanguageTests {
    private static final String SOURCE = "src/main/java/SleeperBerths.java";

    private static final String[][] RULED_OUT = {
        {"1", "^\\s*package\\b"},
        {"3", "\\b(Object|Long|Double|Float|Character|Boolean|Map|Set|HashMap|Optional|var)\\b"},
        {"4", "\\b(import|Double|Float|String\\.format|System\\.out|Thread|Random|Objects)\\b"},
        {"4", "\\w+Exact\\b"},
        {"5", "\\bstatic\\s*\\{"},
        {"5", "\\bstatic (?!final)\\w+(\\[\\])* \\w+( =|;)"},
        {"6", "\\b(try|catch|finally|synchronized|assert|extends \\w*Exception|getMessage)\\b"},
        {"6", "throw (?!new (IllegalStateException|IllegalArgumentException|IndexOutOfBoundsException)\\(\"[^\"]*\"\\);)"},
        {"6", "\\b(equals|hashCode|toString)\\s*\\("},
        {"3", "->|::"},
        {"10", "\"\\s*\\+|\\+\\s*\""},
        {"13", "\\b(currentTimeMillis|nanoTime|File|Socket|getenv)\\b"},
    };

    private static int wrong = 0;

    public static void main(String[] args) throws IOException {
        String source = new String(Files.readAllBytes(Paths.get(SOURCE)), StandardCharsets.ISO_8859_1);
        String code = source.replaceAll("(?s)/\\*.*?\\*/", "").replaceAll("//[^\n]*", "");
        for (String[] rule : RULED_OUT) {
            Matcher matcher = Pattern.compile(rule[1], Pattern.MULTILINE).matcher(code);
            while (matcher.find()) {
                tell("rule " + rule[0] + " leaves no " + matcher.group());
            }
        }
        for (int i = 0; i < source.length(); i++) {
            if (source.charAt(i) > 126) {
                tell("rule 4: a sign above 126 at " + i);
            }
        }
        checkMethods(code);
        int classes = count(code, "\\bclass \\w+");
        if (classes > 12) {
            tell("rule 11: " + classes + " classes");
        }
        System.out.println(wrong == 0 ? "the source keeps to the rules looked at" : wrong + " faults of the language");
        if (wrong != 0) {
            System.exit(1);
        }
    }

    /** Methods begin at a line with a bracket and "{" at its end, and end at a "}" as far in. */
    private static void checkMethods(String code) {
        Matcher matcher = Pattern.compile("(?m)^( {4}| {8})(\\w[^=;\n]*\\))([^=;\n]*) \\{$").matcher(code);
        int methods = 0;
        while (matcher.find()) {
            if (matcher.group(2).startsWith("for ") || matcher.group(2).startsWith("if ") || matcher.group(2).startsWith("while ")) {
                continue;
            }
            methods++;
            int end = code.indexOf("\n" + matcher.group(1) + "}", matcher.end());
            int lines = count(code.substring(matcher.end(), Math.max(matcher.end(), end)), "\n");
            if (lines > 60) {
                tell("rule 11: " + lines + " lines in " + matcher.group(2));
            }
            if (count(matcher.group(2), ",") > 6) {
                tell("rule 11: more than seven parameters of " + matcher.group(2));
            }
        }
        if (methods < 60) {
            tell("only " + methods + " methods were seen, the look itself is wrong");
        }
    }

    private static int count(String text, String pattern) {
        int count = 0;
        Matcher matcher = Pattern.compile(pattern).matcher(text);
        while (matcher.find()) {
            count++;
        }
        return count;
    }

    private static void tell(String fault) {
        wrong++;
        System.out.println(fault);
    }
}
