import java.io.IOException;
import java.net.URL;
import java.net.URLClassLoader;
import java.nio.file.Files;
import java.nio.file.Path;
import java.util.ArrayList;
import java.util.List;
import java.util.regex.Matcher;
import java.util.regex.Pattern;
import javax.tools.ToolProvider;

/** Makes the calls of README.md's examples: each of them has the answer behind it that the class gives. */
public final class ReadmeTest {
    private static final Pattern CALL = Pattern.compile("(\\w+\\.\\w+\\(.*\\));\\s+// (true|false|UNKNOWN|NONE|-?\\d+)(:.*)?");
    private static final Pattern OBJECT = Pattern.compile("RoundArchive \\w+ = new RoundArchive\\(.*\\);");
    private static final List<String> METHODS = List.of(
        "shape", "update", "lastTime", "moment", "steps", "lastStep", "rows", "row", "peak", "known", "pending", "pendingSum");

    private static final Due due = new Due();

    public static void main(String[] args) throws IOException, ReflectiveOperationException {
        String readme = Files.readString(Due.project().resolve("README.md"));
        List<String> examples = examples(readme);
        for (String method : METHODS) {
            due.is("README.md shows " + method, examples.stream().anyMatch(line -> line.contains("." + method + "(")), true);
        }
        due.is("README.md tells how to run the tests", readme.contains("```sh\n.ci/run\n```"), true);
        run(program(examples));
        due.end();
    }

    /** The lines of all blocks of Java. */
    private static List<String> examples(String readme) {
        List<String> lines = new ArrayList<>();
        boolean inside = false;
        for (String line : readme.split("\n")) {
            if (line.startsWith("```")) {
                inside = line.equals("```java");
            } else if (inside && !line.isBlank() && !line.startsWith("//")) {
                lines.add(line);
            }
        }
        return lines;
    }

    /** A class that makes the calls and lists each of them with what it answered and what README.md says it does. */
    private static String program(List<String> examples) {
        StringBuilder text = new StringBuilder();
        for (String line : examples) {
            Matcher call = CALL.matcher(line);
            if (call.matches()) {
                String want = Character.isUpperCase(call.group(2).charAt(0)) ? "RoundArchive." + call.group(2) : call.group(2);
                text.append("all.add(new Object[] {\"").append(call.group(1)).append("\", ")
                    .append(call.group(1)).append(", ").append(want).append("});\n");
            } else {
                due.is("README.md's line " + line + " has an answer or makes an object", OBJECT.matcher(line).matches(), true);
                text.append(line).append('\n');
            }
        }
        return "public final class Examples {\n"
            + "public static java.util.List<Object[]> answers() {\n"
            + "java.util.List<Object[]> all = new java.util.ArrayList<>();\n" + text + "return all;\n}\n}\n";
    }

    private static void run(String program) throws IOException, ReflectiveOperationException {
        Path folder = Files.createTempDirectory("readme");
        Path source = Files.writeString(folder.resolve("Examples.java"), program);
        int code = ToolProvider.getSystemJavaCompiler().run(null, null, null,
            "--release", "17", "-cp", System.getProperty("java.class.path"), "-d", folder.toString(), source.toString());
        due.is("javac of README.md's examples", code, 0);
        if (code == 0) {
            compare(folder);
        }
        Files.deleteIfExists(folder.resolve("Examples.class"));
        Files.delete(source);
        Files.delete(folder);
    }

    private static void compare(Path folder) throws IOException, ReflectiveOperationException {
        try (URLClassLoader loader = new URLClassLoader(new URL[] {folder.toUri().toURL()})) {
            Object answers = loader.loadClass("Examples").getMethod("answers").invoke(null);
            for (Object answer : (List<?>) answers) {
                Object[] callGotAndDue = (Object[]) answer;
                due.is("README.md: " + callGotAndDue[0], callGotAndDue[1], callGotAndDue[2]);
            }
        }
    }
}
