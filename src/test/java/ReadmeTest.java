import java.io.IOException;
import java.nio.file.Files;
import java.nio.file.Path;
import java.util.regex.Matcher;
import java.util.regex.Pattern;
import javax.tools.ToolProvider;

/** The example of README.md compiles, and its answers are those that its comments tell. */
public final class ReadmeTest {
    private static final Pattern ANSWER = Pattern.compile("int (\\w+) = .*;\\s+// (-?\\d+|BAD|STATE|FULL|NONE): .*");
    /** The example stands where the tests stand: Check is visible only there. */
    private static final Path CLASSES = Path.of(System.getProperty("java.class.path"));

    public static void main(String[] args) throws IOException, ReflectiveOperationException {
        String readme = Files.readString(Path.of("README.md"));
        Matcher example = Pattern.compile("```java\n(.*?)```", Pattern.DOTALL).matcher(readme);
        if (example.find()) {
            run(program(example.group(1)));
        } else {
            Check.holds("README.md has an example", false);
        }
        Check.end();
    }

    private static void run(String program) throws IOException, ReflectiveOperationException {
        Path source = Files.writeString(CLASSES.resolve("ReadmeExample.java"), program);
        int failed = ToolProvider.getSystemJavaCompiler().run(null, null, null,
            "-cp", CLASSES.toString(), "-d", CLASSES.toString(), source.toString());
        Check.due("compile the example", failed, 0);
        if (failed == 0) {
            Class.forName("ReadmeExample").getMethod("main").invoke(null);
        }
    }

    private static String program(String example) {
        StringBuilder program = new StringBuilder("public final class ReadmeExample {\n    public static void main() {\n");
        int answers = 0;
        for (String line : example.split("\n")) {
            program.append(line).append('\n');
            Matcher told = ANSWER.matcher(line);
            if (told.matches()) {
                String due = told.group(2).matches("[A-Z]+") ? "SkiSchool." + told.group(2) : told.group(2);
                program.append("Check.due(\"README: ").append(told.group(1)).append("\", ")
                    .append(told.group(1)).append(", ").append(due).append(");\n");
                answers++;
            }
        }
        Check.holds("the example tells answers", answers > 10);
        return program.append("    }\n}\n").toString();
    }
}
