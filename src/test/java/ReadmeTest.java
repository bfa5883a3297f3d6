import java.io.ByteArrayOutputStream;
import java.io.IOException;
import java.io.PrintStream;
import java.net.URL;
import java.net.URLClassLoader;
import java.nio.charset.StandardCharsets;
import java.nio.file.Files;
import java.nio.file.Path;
import java.util.ArrayList;
import java.util.Comparator;
import java.util.List;
import java.util.regex.Matcher;
import java.util.regex.Pattern;
import java.util.stream.Stream;
import javax.tools.ToolProvider;

/** The example of README.md compiles as README.md says, and prints the numbers that stand in its remarks. */
public final class ReadmeTest {
    private static final Pattern EXAMPLE = Pattern.compile("```java\n(.*?)```", Pattern.DOTALL);
    private static final Pattern REMARK = Pattern.compile("System\\.out\\.println\\(.*\\);\\s*// (-?\\d+)");

    private ReadmeTest() {
    }

    public static void main(String[] args) throws Exception {
        Matcher example = EXAMPLE.matcher(Files.readString(Path.of("README.md")));
        if (!example.find()) {
            System.out.println("README.md has no example");
            System.exit(1);
        }
        List<String> due = new ArrayList<>();
        Matcher remark = REMARK.matcher(example.group(1));
        while (remark.find()) {
            due.add(remark.group(1));
        }
        List<String> got = printed(example.group(1));
        boolean same = !due.isEmpty() && got.equals(due);
        System.out.println(same ? "the example of README.md prints what it says" : "the example printed " + got + ", due is " + due);
        System.exit(same ? 0 : 1);
    }

    private static List<String> printed(String text) throws Exception {
        Path work = Files.createTempDirectory("readme");
        PrintStream screen = System.out;
        ByteArrayOutputStream caught = new ByteArrayOutputStream();
        try {
            Path file = Files.writeString(work.resolve("Example.java"), text);
            int code = ToolProvider.getSystemJavaCompiler().run(null, null, null, "-d", work.toString(),
                "src/main/java/FadeJoiner.java", file.toString());
            if (code != 0) {
                return List.of("nothing, it doesn't compile");
            }
            System.setOut(new PrintStream(caught, true, StandardCharsets.UTF_8));
            // No parent but the platform's, so that the classes just compiled are run, not those of this test.
            try (URLClassLoader loader = new URLClassLoader(new URL[] {work.toUri().toURL()}, ClassLoader.getPlatformClassLoader())) {
                loader.loadClass("Example").getMethod("main", String[].class).invoke(null, (Object) new String[0]);
            }
        } finally {
            System.setOut(screen);
            delete(work);
        }
        return caught.toString(StandardCharsets.UTF_8).lines().toList();
    }

    private static void delete(Path directory) throws IOException {
        try (Stream<Path> files = Files.walk(directory)) {
            for (Path file : files.sorted(Comparator.reverseOrder()).toList()) {
                Files.delete(file);
            }
        }
    }
}
