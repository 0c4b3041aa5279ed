import java.io.File;
import java.net.URL;
import java.net.URLClassLoader;
import java.nio.file.Files;
import java.nio.file.Path;
import java.util.ArrayList;
import java.util.List;
import java.util.regex.Matcher;
import java.util.regex.Pattern;
import java.util.stream.Stream;
import javax.tools.ToolProvider;

/** README.md as it stands: its example is compiled and run, each call with the answer that is written behind it. */
public final class ReadmeTest {
    private static final Pattern BLOCK = Pattern.compile("```java\n(.*?)```", Pattern.DOTALL);
    private static final Pattern CALL = Pattern.compile("(?m)^(ball\\..*);\\s*// (true|false|-?\\d+): .*$");

    public static void main(String[] args) throws Exception {
        String readme = Files.readString(Path.of("README.md"));
        tableHasEveryTest(readme);
        List<String> blocks = BLOCK.matcher(readme).results().map(block -> block.group(1)).toList();
        Due.is("java in README.md: how to feed, an example", blocks.size(), 2);
        Path folder = Files.createTempDirectory("readme");
        try {
            exampleAnswers(folder, blocks.get(0), blocks.get(1));
        } finally {
            remove(folder);
        }
        Due.end();
    }

    private static void tableHasEveryTest(String readme) {
        File[] files = new File("tests").listFiles();
        Due.is("there are tests", files != null && files.length > 0, true);
        for (File file : files == null ? new File[0] : files) {
            Due.is("README.md tells of " + file.getName(), readme.contains("`tests/" + file.getName() + "`"), true);
        }
        Matcher told = Pattern.compile("`(tests/\\w+\\.java)`").matcher(readme);
        while (told.find()) {
            Due.is("there is " + told.group(1), new File(told.group(1)).exists(), true);
        }
    }

    private static void exampleAnswers(Path folder, String methods, String example) throws Exception {
        List<String> calls = new ArrayList<>();
        List<String> due = new ArrayList<>();
        String lines = CALL.matcher(example).replaceAll(call -> {
            calls.add(call.group(1));
            due.add(call.group(2));
            return "answers.add(String.valueOf(" + call.group(1) + "));";
        });
        Due.is("each call has its answer behind it", calls.size(), example.split("ball\\.", -1).length - 1);
        List<?> answers = answers(folder, methods, lines);
        Due.is("answers", answers.size(), due.size());
        for (int i = 0; i < answers.size() && i < due.size(); i++) {
            Due.is("README.md: " + calls.get(i) + " answered " + answers.get(i), answers.get(i).equals(due.get(i)), true);
        }
    }

    private static List<?> answers(Path folder, String methods, String lines) throws Exception {
        Path source = folder.resolve("Example.java");
        Files.writeString(source, "public class Example {\n" + methods + "public static java.util.List<String> answers() {\n"
            + "java.util.List<String> answers = new java.util.ArrayList<>();\n" + lines + "return answers;\n}\n}\n");
        String classes = System.getProperty("java.class.path");
        int code = ToolProvider.getSystemJavaCompiler().run(null, null, null, "-proc:none", "-cp", classes, "-d", folder.toString(), source.toString());
        Due.is("the example compiles", code, 0);
        try (URLClassLoader loader = new URLClassLoader(new URL[] {folder.toUri().toURL()})) {
            return (List<?>) loader.loadClass("Example").getMethod("answers").invoke(null);
        }
    }

    private static void remove(Path folder) throws Exception {
        try (Stream<Path> made = Files.list(folder)) {
            for (Path file : made.toList()) {
                Files.delete(file);
            }
        }
        Files.delete(folder);
    }
}
