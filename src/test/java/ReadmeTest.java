import java.io.IOException;
import java.lang.reflect.Method;
import java.lang.reflect.Modifier;
import java.nio.file.Files;
import java.nio.file.Path;
import java.util.ArrayList;
import java.util.List;
import java.util.regex.Matcher;
import java.util.regex.Pattern;
import java.util.stream.Stream;

/**
 * What README.md says of the use of the class and of its tests; it is run from the project's
 * directory. The example is compiled as it stands there, each call with the answer behind it.
 */
public final class ReadmeTest {
    private static final Pattern CALL = Pattern.compile("(parser\\.\\w+\\(.*\\)); +// (-?\\d+|[A-Z_]+)(:.*)?");
    /** Where the commands of README.md put what they compile. */
    private static final String OUT = "out";

    public static void main(String[] args) throws IOException, InterruptedException {
        List<String> readme = Files.readAllLines(Path.of("README.md"));
        Path place = Files.createTempDirectory("readme");
        try {
            example(codeOf(readme), place);
            everyCallIsShown(codeOf(readme));
            commands(readme, place);
            everyTestIsNamed(String.join("\n", readme));
        } finally {
            delete(place);
        }
        Script.end();
    }

    private static List<String> codeOf(List<String> readme) {
        List<String> code = new ArrayList<>();
        boolean inside = false;
        for (String line : readme) {
            if (line.startsWith("```")) {
                inside = line.equals("```java");
            } else if (inside) {
                code.add(line);
            }
        }
        return code;
    }

    private static void example(List<String> code, Path place) throws IOException, InterruptedException {
        StringBuilder body = new StringBuilder();
        for (String line : code) {
            Matcher matcher = CALL.matcher(line);
            boolean answered = matcher.matches();
            Script.check("README.md tells the answer of " + line, answered || !line.startsWith("parser."));
            body.append(answered ? comparison(matcher.group(1), matcher.group(2)) : line).append('\n');
        }
        Path source = place.resolve("Example.java");
        Files.writeString(source, "public final class Example {\n static int wrong = 0;\n"
            + " static void due(String call, long got, long want) {\n  if (got != want) {\n   wrong++;\n"
            + "   System.out.println(\"README.md: \" + call + \" answered \" + got + \", due is \" + want);\n  }\n }\n"
            + " public static void main(String[] args) {\n" + body + "System.exit(wrong > 0 ? 1 : 0);\n }\n}\n");
        String path = System.getProperty("java.class.path");
        Script.check("the example of README.md can be compiled",
            run("javac -cp '" + path + "' -d '" + place + "' '" + source + "'"));
        Script.check("the answers in README.md are right", run("java -cp '" + path + ":" + place + "' Example"));
    }

    private static String comparison(String call, String answer) {
        String due = Character.isLetter(answer.charAt(0)) ? "ArcFactoredParser." + answer : answer + "L";
        return "due(\"" + call + "\", " + call + ", " + due + ");";
    }

    private static void everyCallIsShown(List<String> code) {
        String all = String.join("\n", code);
        for (Method method : ArcFactoredParser.class.getDeclaredMethods()) {
            if (Modifier.isPublic(method.getModifiers())) {
                Script.check("README.md shows " + method.getName(), all.contains("parser." + method.getName() + "("));
            }
        }
    }

    /** The commands are the indented lines outside the code; .ci/run is not run, as it is what runs this test. */
    private static void commands(List<String> readme, Path place) throws IOException, InterruptedException {
        List<String> commands = new ArrayList<>(readme);
        commands.removeAll(codeOf(readme));
        commands.removeIf(line -> !line.startsWith("    "));
        Script.check("README.md has the command .ci/run", commands.remove("    .ci/run"));
        Script.check(".ci/run can be run", Files.isExecutable(Path.of(".ci/run")));
        Script.check("README.md has the commands for one test", commands.size() == 2);
        for (String command : commands) {
            String line = command.strip().replace(" " + OUT + " ", " '" + place.resolve(OUT) + "' ");
            Script.check("the command of README.md can be run: " + command.strip(), run(line));
        }
    }

    private static void everyTestIsNamed(String readme) throws IOException {
        try (Stream<Path> files = Files.list(Path.of("src/test/java"))) {
            files.map(file -> file.getFileName().toString()).filter(name -> name.endsWith("Test.java")).forEach(name ->
                Script.check("README.md names " + name, readme.contains("`" + name.replace(".java", "") + "`")));
        }
        Matcher matcher = Pattern.compile("`(\\w+(?:Test|Parser))`").matcher(readme);
        while (matcher.find()) {
            String name = matcher.group(1) + ".java";
            Script.check("the class that README.md names is there: " + name, Files.exists(Path.of("src/test/java", name))
                || Files.exists(Path.of("src/main/java", name)));
        }
    }

    private static boolean run(String command) throws IOException, InterruptedException {
        return new ProcessBuilder("sh", "-c", command).inheritIO().start().waitFor() == 0;
    }

    private static void delete(Path path) throws IOException {
        if (Files.isDirectory(path)) {
            try (Stream<Path> files = Files.list(path)) {
                for (Path file : files.toList()) {
                    delete(file);
                }
            }
        }
        Files.delete(path);
    }
}
