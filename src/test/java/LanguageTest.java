import java.io.IOException;
import java.nio.file.Files;
import java.nio.file.Path;
import java.util.ArrayDeque;
import java.util.Deque;
import java.util.regex.Matcher;
import java.util.regex.Pattern;

/** What can be seen in the source itself of the rules of LANGUAGE.md; it is run from the project's directory. */
public final class LanguageTest {
    private static final String[] FORBIDDEN = {
        "\\bthrow\\b", "\\bthrows\\b", "\\btry\\b", "\\bcatch\\b", "\\bsynchronized\\b", "\\bassert\\b", "\\bimport\\b",
        "\\bpackage\\b", "->", "::", "\\bprotected\\b", "\\bvolatile\\b", "\\bnative\\b", "Exact\\b", "\\bSystem\\.(?!arraycopy)",
        "\\bMath\\.(?!max|min|abs|floorDiv|floorMod)", "\\bhashCode\\b", "\\btoString\\b", "\\bstatic \\{", "\\bwhile \\(true\\)",
        "\\bboolean\\[\\]\\[\\]", "\\[\\]\\[\\]\\[\\]", "\\bdouble\\b", "\\bfloat\\b", "[^\\x00-\\x7f]"
    };

    public static void main(String[] args) throws IOException {
        String source = Files.readString(Path.of("src/main/java/ArcFactoredParser.java"));
        String code = source.replaceAll("(?s)/\\*.*?\\*/", "").replaceAll("//[^\n]*", "");
        for (String forbidden : FORBIDDEN) {
            Matcher matcher = Pattern.compile(forbidden).matcher(code);
            Script.check("the source is without " + forbidden, !matcher.find());
        }
        staticFieldsAreFinal(code);
        methodsAreShort(code);
        Script.end();
    }

    private static void staticFieldsAreFinal(String code) {
        Matcher matcher = Pattern.compile("static (?!final)[^(;{]*[=;]").matcher(code);
        Script.check("static fields are final", !matcher.find());
    }

    /** Counts the lines between the braces of each block that begins with a list of parameters. */
    private static void methodsAreShort(String code) {
        Deque<Integer> opened = new ArrayDeque<>();
        String[] lines = code.split("\n");
        for (int i = 0; i < lines.length; i++) {
            for (char sign : lines[i].toCharArray()) {
                if (sign == '{') {
                    opened.push(i);
                } else if (sign == '}') {
                    int start = opened.pop();
                    if (lines[start].matches("\\s+[\\w\\[\\] ]+\\([^()]*\\) \\{")) {
                        Script.check("the method of line " + start + " is short", i - start <= 60);
                        Script.check("the method of line " + start + " has at most seven parameters",
                            lines[start].split(",").length <= 7);
                    }
                }
            }
        }
        Script.check("all braces are closed", opened.isEmpty());
    }
}
