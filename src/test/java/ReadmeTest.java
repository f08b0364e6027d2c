import java.io.IOException;
import java.net.URL;
import java.net.URLClassLoader;
import java.nio.charset.StandardCharsets;
import java.nio.file.Files;
import java.nio.file.Path;
import java.util.ArrayList;
import java.util.List;
import java.util.regex.Matcher;
import java.util.regex.Pattern;
import javax.tools.ToolProvider;

/** The example of README.md, compiled and run: each call answers the number, or true, that its comment begins with. */
public final class ReadmeTest {
    private static final Check check = new Check("ReadmeTest");
    private static final Pattern ASKED = Pattern.compile("(int \\w+ = )?(x\\..*\\)); *// (-?\\d+|true)\\b.*");

    public static void main(String[] args) throws ReflectiveOperationException, IOException {
        String readme = Files.readString(Path.of("README.md"), StandardCharsets.UTF_8);
        int from = readme.indexOf("```java\n") + 8;
        String example = readme.substring(from, readme.indexOf("```", from));
        run(program(example.split("\n")));
        check.close();
    }

    private static String program(String[] lines) {
        StringBuilder text = new StringBuilder("public final class Example {\n    public static void run(java.util.List<String> wrong) {\n");
        int asked = 0;
        for (String line : lines) {
            Matcher call = ASKED.matcher(line);
            if (call.matches()) {
                String name = call.group(2).replace("\"", "");
                text.append("if (").append(call.group(2)).append(" != ").append(call.group(3)).append(") wrong.add(\"")
                    .append(name).append("\");\n");
                asked++;
            } else {
                text.append(line).append('\n');
            }
        }
        check.due("calls with an answer beside them: " + asked, asked > 10, true);
        return text.append("    }\n}\n").toString();
    }

    private static void run(String program) throws ReflectiveOperationException, IOException {
        Path out = Files.createTempDirectory("example");
        Path file = out.resolve("Example.java");
        Files.writeString(file, program);
        String classes = System.getProperty("java.class.path");
        int failed = ToolProvider.getSystemJavaCompiler().run(null, null, null, "-cp", classes, "-d", out.toString(), file.toString());
        check.due("compiling the example", failed, 0);
        if (failed == 0) {
            try (URLClassLoader loader = new URLClassLoader(new URL[] {out.toUri().toURL()})) {
                List<String> wrong = new ArrayList<>();
                loader.loadClass("Example").getMethod("run", List.class).invoke(null, wrong);
                check.due("calls that don't answer what stands beside them: " + wrong, wrong.size(), 0);
            }
        }
        Files.deleteIfExists(out.resolve("Example.class"));
        Files.deleteIfExists(file);
        Files.deleteIfExists(out);
    }
}
