import java.net.URL;
import java.net.URLClassLoader;
import java.nio.file.Files;
import java.nio.file.Path;
import java.util.List;
import java.util.regex.Matcher;
import java.util.regex.Pattern;
import java.util.stream.Stream;
import javax.tools.ToolProvider;

/**
 * What README.md says is so: its example compiles, a number behind // is the answer that is due,
 * and the tests that it tells of are those that there are.
 */
public final class ReadmeTest {
    private static final Pattern ANSWER = Pattern.compile(" *int (\\w+) = .*; *// (-?[0-9]+):.*");
    private static final Due due = new Due();

    /** Called by the program that is made of the example. */
    public static void answer(String name, int got, int want) {
        due.is("README.md: " + name, got, want);
    }

    private static void example(List<String> readme) throws Exception {
        StringBuilder program = new StringBuilder("public final class Example { public static void run() {\n");
        int answers = 0;
        for (String line : readme.subList(readme.indexOf("## Use"), readme.indexOf("## Tests"))) {
            if (line.startsWith("    ")) {
                program.append(line).append('\n');
                Matcher matcher = ANSWER.matcher(line);
                if (matcher.matches()) {
                    answers++;
                    program.append("ReadmeTest.answer(\"" + matcher.group(1) + "\", " + matcher.group(1)
                            + ", " + matcher.group(2) + ");\n");
                }
            }
        }
        due.isTrue("the example tells of answers", answers >= 7);
        run(program.append("}}\n").toString());
        due.is("the example asks for all of them", due.asked(), answers + 2);
    }

    private static void run(String program) throws Exception {
        Path folder = Files.createTempDirectory("readme");
        Path source = folder.resolve("Example.java");
        Path classes = folder.resolve("Example.class");
        try {
            Files.writeString(source, program);
            int result = ToolProvider.getSystemJavaCompiler().run(null, null, null, "-d", folder.toString(),
                    "-cp", System.getProperty("java.class.path"), source.toString());
            due.is("the example compiles", result, 0);
            if (result == 0) {
                try (URLClassLoader loader = new URLClassLoader(new URL[] {folder.toUri().toURL()})) {
                    loader.loadClass("Example").getMethod("run").invoke(null);
                }
            }
        } finally {
            Files.deleteIfExists(source);
            Files.deleteIfExists(classes);
            Files.deleteIfExists(folder);
        }
    }

    private static void tests(String readme) throws Exception {
        try (Stream<Path> files = Files.list(Path.of("src/test/java"))) {
            for (Path file : files.toList()) {
                String name = file.getFileName().toString().replace(".java", "");
                if (name.endsWith("Test")) {
                    due.isTrue("README.md tells of " + name, readme.contains("`" + name + "`"));
                }
            }
        }
        Matcher named = Pattern.compile("`(\\w+Test)`").matcher(readme);
        while (named.find()) {
            due.isTrue("there is the test " + named.group(1),
                    Files.exists(Path.of("src/test/java", named.group(1) + ".java")));
        }
    }

    public static void main(String[] args) throws Exception {
        example(Files.readAllLines(Path.of("README.md")));
        tests(Files.readString(Path.of("README.md")));
        due.close("ReadmeTest");
    }
}
