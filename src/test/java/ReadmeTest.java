import java.io.IOException;
import java.net.URL;
import java.net.URLClassLoader;
import java.nio.file.Files;
import java.nio.file.Path;
import java.util.ArrayList;
import java.util.Comparator;
import java.util.List;
import java.util.regex.Matcher;
import java.util.regex.Pattern;
import java.util.stream.Stream;
import javax.tools.ToolProvider;

/** The examples of README.md: compiled as they stand there, each answer as is said behind its //. */
public final class ReadmeTest {
    private static final Path README = Path.of("README.md");
    private static final String NAME = "ReadmeExamples";
    private static final Pattern BLOCK = Pattern.compile("```java\n(.*?)```", Pattern.DOTALL);
    private static final Pattern ASKING = Pattern.compile("(?m)^(x\\.\\w+\\(.*\\)); *// (-?\\d+)\\b.*$");
    private static final Pattern CALL = Pattern.compile("(?m)^x\\.");

    private ReadmeTest() {
    }

    private static long count(Pattern pattern, String text) {
        return pattern.matcher(text).results().count();
    }

    /** A class of all examples; a block with a method of its own is put beside them. */
    private static String source(String page) {
        StringBuilder methods = new StringBuilder();
        StringBuilder all = new StringBuilder();
        int examples = 0;
        Matcher block = BLOCK.matcher(page);
        while (block.find()) {
            String lines = block.group(1);
            if (lines.startsWith("static ")) {
                methods.append(lines);
                continue;
            }
            examples++;
            Due.due("calls of example " + examples + " that say their answer", count(ASKING, lines), count(CALL, lines));
            methods.append("private static void example").append(examples).append("(java.util.List<Object[]> answers) {\n");
            methods.append(ASKING.matcher(lines).replaceAll("answers.add(new Object[] {\"$1\", (long) $1, $2L});"));
            methods.append("}\n");
            all.append("example").append(examples).append("(answers);\n");
        }
        Due.due("there are examples", examples > 0 ? 1 : 0, 1);
        return "public final class " + NAME + " {\n" + methods + "public static void all(java.util.List<Object[]> answers) {\n"
            + all + "}\n}\n";
    }

    private static void run(String source, Path folder) throws IOException, ReflectiveOperationException {
        Path file = folder.resolve(NAME + ".java");
        Files.writeString(file, source);
        String classes = System.getProperty("java.class.path");
        int failed = ToolProvider.getSystemJavaCompiler().run(null, null, null, "-cp", classes, "-d", folder.toString(),
            file.toString());
        Due.due("the examples compile", failed, 0);
        if (failed != 0) {
            return;
        }
        List<Object[]> answers = new ArrayList<>();
        try (URLClassLoader loader = new URLClassLoader(new URL[] {folder.toUri().toURL()})) {
            loader.loadClass(NAME).getMethod("all", List.class).invoke(null, answers);
        }
        for (Object[] answer : answers) {
            Due.due((String) answer[0], (Long) answer[1], (Long) answer[2]);
        }
    }

    private static void remove(Path folder) throws IOException {
        try (Stream<Path> files = Files.walk(folder)) {
            for (Path file : files.sorted(Comparator.reverseOrder()).toList()) {
                Files.delete(file);
            }
        }
    }

    public static void main(String[] args) throws IOException, ReflectiveOperationException {
        Due.about("README.md: ");
        Path folder = Files.createTempDirectory("readme");
        try {
            run(source(Files.readString(README)), folder);
        } finally {
            remove(folder);
        }
        Due.end("ReadmeTest");
    }
}
