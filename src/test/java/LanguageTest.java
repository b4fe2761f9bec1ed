import java.io.IOException;
import java.lang.reflect.Field;
import java.lang.reflect.Modifier;
import java.nio.file.Files;
import java.nio.file.Path;
import java.util.ArrayDeque;
import java.util.Deque;
import java.util.HashMap;
import java.util.Map;
import java.util.regex.Matcher;
import java.util.regex.Pattern;

/** What can be seen in the source itself of the rules of LANGUAGE.md; it is run from the project's directory. */
public final class LanguageTest {
    private static final String[] FORBIDDEN = {
        "\\bthrow\\b", "\\bthrows\\b", "\\btry\\b", "\\bcatch\\b", "\\bsynchronized\\b", "\\bassert\\b", "\\bimport\\b",
        "\\bpackage\\b", "->", "::", "\\bprotected\\b", "\\bvolatile\\b", "\\bnative\\b", "Exact\\b", "\\bSystem\\.(?!arraycopy)",
        "\\bMath\\.(?!max|min|abs|floorDiv|floorMod)", "\\bhashCode\\b", "\\btoString\\b", "\\bstatic \\{", "\\bwhile \\(true\\)",
        "\\bboolean\\[\\]\\[\\]", "\\[\\]\\[\\]\\[\\]", "\\bdouble\\b", "\\bfloat\\b", "[^\\x00-\\x7f]"
    };

    private static final Pattern METHOD = Pattern.compile("\\s+[\\w\\[\\] ]+ (\\w+)\\([^()]*\\) \\{");
    private static final Pattern NAME = Pattern.compile("\\b(\\w+)\\(");
    private static final int MOST_DEEP = 8;

    public static void main(String[] args) throws IOException {
        String source = Files.readString(Path.of("src/main/java/ArcFactoredParser.java"));
        String code = source.replaceAll("(?s)/\\*.*?\\*/", "").replaceAll("//[^\n]*", "");
        for (String forbidden : FORBIDDEN) {
            Matcher matcher = Pattern.compile(forbidden).matcher(code);
            Script.check("the source is without " + forbidden, !matcher.find());
        }
        staticFieldsAreFinal(code);
        methodsAreShort(code);
        callsStayFlat(bodies(code));
        classesAreSmall();
        Script.end();
    }

    private static void staticFieldsAreFinal(String code) {
        Matcher matcher = Pattern.compile("static (?!final)[^(;{]*[=;]").matcher(code);
        Script.check("static fields are final", !matcher.find());
    }

    /** Counts the lines between the braces of each block that begins with a list of parameters. */
    private static void methodsAreShort(String code) {
        Deque<Integer> opened = new ArrayDeque<>();
        String[] lines = code.split("\n");
        for (int i = 0; i < lines.length; i++) {
            for (char sign : lines[i].toCharArray()) {
                if (sign == '{') {
                    opened.push(i);
                } else if (sign == '}') {
                    int start = opened.pop();
                    if (lines[start].matches("\\s+[\\w\\[\\] ]+\\([^()]*\\) \\{")) {
                        Script.check("the method of line " + start + " is short", i - start <= 60);
                        Script.check("the method of line " + start + " has at most seven parameters",
                            lines[start].split(",").length <= 7);
                    }
                }
            }
        }
        Script.check("all braces are closed", opened.isEmpty());
    }

    /** The bodies of the methods by their names; methods with one name are taken together. */
    private static Map<String, String> bodies(String code) {
        Map<String, String> bodies = new HashMap<>();
        String name = null;
        for (String line : code.split("\n")) {
            Matcher matcher = METHOD.matcher(line);
            if (matcher.matches() && !line.matches("\\s+(} )?(if|for|while|switch|else|return)\\b.*")) {
                name = matcher.group(1);
                bodies.putIfAbsent(name, "");
            } else if (name != null) {
                bodies.merge(name, line + "\n", String::concat);
            }
        }
        return bodies;
    }

    private static void callsStayFlat(Map<String, String> bodies) {
        Script.check("the methods are found: " + bodies.keySet(), bodies.size() > 42 && bodies.containsKey("checksum"));
        for (String name : bodies.keySet()) {
            Script.check("the calls below " + name + " go at most " + MOST_DEEP + " deep", depth(name, bodies, 1) <= MOST_DEEP);
        }
    }

    /** A method that calls itself is not counted twice; a circle of several methods ends beyond the bound. */
    private static int depth(String name, Map<String, String> bodies, int above) {
        int deepest = above;
        Matcher matcher = NAME.matcher(bodies.get(name));
        while (above <= MOST_DEEP && matcher.find()) {
            String called = matcher.group(1);
            if (bodies.containsKey(called) && !called.equals(name)) {
                deepest = Math.max(deepest, depth(called, bodies, above + 1));
            }
        }
        return deepest;
    }

    private static void classesAreSmall() {
        Class<?>[] inside = ArcFactoredParser.class.getDeclaredClasses();
        Script.check("there are at most twelve classes", inside.length < 12);
        fieldsAreFew(ArcFactoredParser.class);
        for (Class<?> type : inside) {
            fieldsAreFew(type);
            Script.check(type + " has no classes inside", type.getDeclaredClasses().length == 0);
        }
    }

    private static void fieldsAreFew(Class<?> type) {
        int fields = 0;
        for (Field field : type.getDeclaredFields()) {
            fields += Modifier.isStatic(field.getModifiers()) ? 0 : 1;
        }
        Script.check(type + " has at most twenty fields", fields <= 20);
    }
}
