import java.net.URL;
import java.net.URLClassLoader;
import java.nio.file.Files;
import java.nio.file.Path;
import java.util.ArrayList;
import java.util.List;
import java.util.regex.Matcher;
import java.util.regex.Pattern;
import javax.tools.ToolProvider;

/** The example in README.md compiles, and each of its calls answers the number that stands beside it. */
public final class ReadmeTest {
    private static final Pattern EXAMPLE = Pattern.compile("(?s)```java\n(.*?)```");
    private static final Pattern CALL = Pattern.compile("(int \\w+ = )?(m\\.\\w+\\(.*?\\);) +// (-?\\d+).*");
    private static final Check check = new Check("ReadmeTest");

    public static void main(String[] args) throws Exception {
        Matcher example = EXAMPLE.matcher(Files.readString(Path.of("README.md")));
        check.holds("README.md has an example", example.find());
        List<String> calls = new ArrayList<>();
        List<Integer> due = new ArrayList<>();
        StringBuilder code = new StringBuilder();
        for (String line : example.group(1).split("\n")) {
            Matcher call = CALL.matcher(line);
            if (call.matches()) {
                String kept = call.group(1) == null ? "" : call.group(1);
                code.append(kept + "answers[" + calls.size() + "] = " + call.group(2) + "\n");
                calls.add(call.group(2));
                due.add(Integer.valueOf(call.group(3)));
            } else {
                check.holds("a line that calls nothing makes the object: " + line, line.contains("new ScanMatcher()"));
                code.append(line + "\n");
            }
        }
        int[] got = run(code.toString(), calls.size());
        for (int i = 0; i < got.length; i++) {
            check.due(calls.get(i), got[i], due.get(i));
        }
        check.holds("the example has calls", got.length > 0);
        check.end();
    }

    private static int[] run(String code, int calls) throws Exception {
        Path folder = Files.createTempDirectory("readme");
        Path source = folder.resolve("Example.java");
        Path compiled = folder.resolve("Example.class");
        int[] answers = new int[calls];
        try {
            Files.writeString(source, "public class Example { public static void run(int[] answers) {\n" + code + "} }\n");
            int failed = ToolProvider.getSystemJavaCompiler().run(null, null, null,
                "-cp", System.getProperty("java.class.path"), "-d", folder.toString(), source.toString());
            check.due("the compiler on the example", failed, 0);
            if (failed == 0) {
                try (URLClassLoader loader = new URLClassLoader(new URL[] {folder.toUri().toURL()})) {
                    loader.loadClass("Example").getMethod("run", int[].class).invoke(null, answers);
                }
            }
        } finally {
            Files.deleteIfExists(compiled);
            Files.deleteIfExists(source);
            Files.deleteIfExists(folder);
        }
        return answers;
    }
}
