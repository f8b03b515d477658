import java.io.IOException;
import java.lang.reflect.Method;
import java.lang.reflect.Modifier;
import java.net.URL;
import java.net.URLClassLoader;
import java.nio.charset.StandardCharsets;
import java.nio.file.Files;
import java.nio.file.Path;
import java.util.ArrayList;
import java.util.Comparator;
import java.util.List;
import java.util.regex.Matcher;
import java.util.regex.Pattern;
import java.util.stream.Stream;
import javax.tools.JavaCompiler;
import javax.tools.ToolProvider;

/** README.md: there, not empty, names every call, and its example answers as it says. */
public final class ReadmeTest {
    private static final Pattern BLOCK = Pattern.compile("(?ms)^```java\n(.*?)^```$");
    private static final Pattern TOLD = Pattern.compile("(?m)^(school\\.\\w+\\(.*\\)); +// (true|false|-?\\d+)\\b.*$");
    private static int wrong = 0;

    public static void main(String[] args) throws Exception {
        Path readme = Path.of("README.md");
        due("README.md is there", Files.isRegularFile(readme));
        String text = Files.isRegularFile(readme) ? Files.readString(readme, StandardCharsets.UTF_8) : "";
        due("README.md is not empty", !text.isBlank());
        due("README.md says how its tests are run", text.contains("```sh\n.ci/run\n```"));
        for (Method method : OneSlip.class.getDeclaredMethods()) {
            boolean isPublic = Modifier.isPublic(method.getModifiers());
            due("README.md names " + method.getName(), !isPublic || text.contains("`" + method.getName() + "`"));
        }
        namesTests(text);
        List<String> blocks = blocksOf(text);
        due("README.md has a hand for texts and an example", blocks.size() == 2);
        if (blocks.size() == 2) {
            runExample(blocks.get(0), blocks.get(1));
        }
        System.out.println(wrong == 0 ? "README.md is as due" : wrong + " things are not as due");
        if (wrong != 0) {
            System.exit(1);
        }
    }

    private static void due(String what, boolean so) {
        if (!so) {
            wrong++;
            System.out.println("not so: " + what);
        }
    }

    /** Called by the example, too, whose class stands in another loader. */
    public static void due(String call, Object got, String want) {
        due(call + " answers " + want + " (it answered " + got + ")", String.valueOf(got).equals(want));
    }

    private static void namesTests(String text) throws IOException {
        try (Stream<Path> files = Files.list(Path.of("src/test/java"))) {
            for (Path file : files.toList()) {
                String name = file.getFileName().toString().replace(".java", "");
                due("README.md names " + name, !name.endsWith("Test") || text.contains("| `" + name + "` |"));
            }
        }
    }

    private static List<String> blocksOf(String text) {
        List<String> blocks = new ArrayList<>();
        Matcher block = BLOCK.matcher(text);
        while (block.find()) {
            blocks.add(block.group(1));
        }
        return blocks;
    }

    private static void runExample(String hand, String example) throws Exception {
        long calls = example.lines().filter(line -> line.startsWith("school.")).count();
        due("each call of the example has its answer", calls > 0 && TOLD.matcher(example).results().count() == calls);
        String body = TOLD.matcher(example).replaceAll("ReadmeTest.due(\"$1\", $1, \"$2\");");
        String source = "public final class Example {\n" + hand
                + "public static void run() {\n" + body + "}\n}\n";
        JavaCompiler compiler = ToolProvider.getSystemJavaCompiler();
        due("there is a compiler", compiler != null);
        if (compiler == null) {
            return;
        }
        Path dir = Files.createTempDirectory("readme");
        try {
            Path file = Files.writeString(dir.resolve("Example.java"), source);
            int code = compiler.run(null, null, null,
                    "-cp", System.getProperty("java.class.path"), "-d", dir.toString(), file.toString());
            due("the example compiles", code == 0);
            if (code == 0) {
                URL[] where = {dir.toUri().toURL()};
                try (URLClassLoader loader = new URLClassLoader(where, ReadmeTest.class.getClassLoader())) {
                    loader.loadClass("Example").getMethod("run").invoke(null);
                }
            }
        } finally {
            remove(dir);
        }
    }

    private static void remove(Path dir) throws IOException {
        try (Stream<Path> all = Files.walk(dir)) {
            for (Path one : all.sorted(Comparator.reverseOrder()).toList()) {
                Files.delete(one);
            }
        }
    }
}
