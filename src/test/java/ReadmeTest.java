import java.io.ByteArrayOutputStream;
import java.io.IOException;
import java.io.PrintStream;
import java.lang.reflect.Method;
import java.lang.reflect.Modifier;
import java.net.URL;
import java.net.URLClassLoader;
import java.nio.charset.StandardCharsets;
import java.nio.file.Files;
import java.nio.file.Path;
import java.util.Comparator;
import java.util.List;
import java.util.stream.Collectors;
import java.util.stream.Stream;
import javax.tools.ToolProvider;

/** README.md: its example compiles and prints what stands below it, and every call and every test is told in it. */
final class ReadmeTest {
    private static final Check CHECK = new Check("ReadmeTest");

    public static void main(String[] args) throws IOException, ReflectiveOperationException {
        String readme = Files.readString(Path.of("README.md"));
        String example = block(readme, "java");
        String behind = readme.substring(readme.indexOf(example) + example.length());
        String printed = printedBy(example);
        CHECK.due("the example prints what is told, but printed:\n" + printed, true, block(behind, "text").equals(printed));
        callsAreTold(readme);
        testsAreTold(readme);
        CHECK.finish();
    }

    /** What stands in the first block of a language. */
    private static String block(String text, String language) {
        String fence = "```" + language + "\n";
        int from = text.indexOf(fence) + fence.length();
        return text.substring(from, text.indexOf("```", from));
    }

    private static String printedBy(String example) throws IOException, ReflectiveOperationException {
        Path directory = Files.createTempDirectory("readme");
        try {
            Path source = Files.writeString(directory.resolve("Example.java"), example);
            int failed = ToolProvider.getSystemJavaCompiler().run(null, null, null, "--release", "17", "-cp",
                    System.getProperty("java.class.path"), "-d", directory.toString(), source.toString());
            CHECK.due("the example compiles", 0, failed);
            return failed == 0 ? run(directory) : "";
        } finally {
            remove(directory);
        }
    }

    private static String run(Path directory) throws IOException, ReflectiveOperationException {
        PrintStream usual = System.out;
        ByteArrayOutputStream printed = new ByteArrayOutputStream();
        try (URLClassLoader loader = new URLClassLoader(new URL[] {directory.toUri().toURL()})) {
            System.setOut(new PrintStream(printed, true, StandardCharsets.UTF_8));
            loader.loadClass("Example").getMethod("main", String[].class).invoke(null, (Object) new String[0]);
        } finally {
            System.setOut(usual);
        }
        return printed.toString(StandardCharsets.UTF_8).replace(System.lineSeparator(), "\n");
    }

    private static void remove(Path directory) throws IOException {
        List<Path> all;
        try (Stream<Path> found = Files.walk(directory)) {
            all = found.sorted(Comparator.reverseOrder()).collect(Collectors.toList());
        }
        for (Path path : all) {
            Files.delete(path);
        }
    }

    private static void callsAreTold(String readme) {
        String table = readme.substring(readme.indexOf("### The calls"), readme.indexOf("### Refusals"));
        for (Method method : GapLinks.class.getDeclaredMethods()) {
            if (Modifier.isPublic(method.getModifiers())) {
                CHECK.due("README.md tells of " + method.getName(), true, table.contains("`" + method.getName() + "("));
            }
        }
    }

    private static void testsAreTold(String readme) throws IOException {
        try (Stream<Path> sources = Files.list(Path.of("src/test/java"))) {
            for (Path source : sources.collect(Collectors.toList())) {
                String name = source.getFileName().toString().replace(".java", "");
                CHECK.due("README.md tells of " + name, true, !name.endsWith("Test") || readme.contains("`" + name + "`"));
            }
        }
    }
}
