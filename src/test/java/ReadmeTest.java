import java.io.ByteArrayOutputStream;
import java.io.PrintStream;
import java.net.URL;
import java.net.URLClassLoader;
import java.nio.charset.StandardCharsets;
import java.nio.file.Files;
import java.nio.file.Path;
import javax.tools.JavaCompiler;
import javax.tools.ToolProvider;

/** What README.md shows to use: it is compiled and run, and must print what README.md says it prints. */
public final class ReadmeTest {
    public static void main(String[] args) throws Exception {
        JavaCompiler compiler = ToolProvider.getSystemJavaCompiler();
        if (compiler == null) {
            System.out.println("ReadmeTest: no compiler for the example");
            return;
        }
        String readme = Files.readString(Path.of("README.md"), StandardCharsets.UTF_8);
        Path folder = Files.createTempDirectory("readme");
        Path source = folder.resolve("Example.java");
        Files.writeString(source, block(readme, "java"), StandardCharsets.UTF_8);
        int failed = compiler.run(null, null, null, "-cp", System.getProperty("java.class.path"), "-d", folder.toString(), source.toString());
        String printed = failed == 0 ? printed(folder) : "(it does not compile)\n";
        delete(folder);
        if (!printed.equals(block(readme, "text"))) {
            System.out.println("ReadmeTest: README.md's example prints\n" + printed);
            System.exit(1);
        }
        System.out.println("ReadmeTest: the example prints what README.md says");
    }

    /** What stands in the first block of a sort. */
    private static String block(String readme, String sort) {
        int begin = readme.indexOf("```" + sort + "\n");
        int from = begin + sort.length() + 4;
        int to = begin < 0 ? -1 : readme.indexOf("```", from);
        return to < 0 ? "" : readme.substring(from, to);
    }

    private static String printed(Path folder) throws Exception {
        PrintStream before = System.out;
        ByteArrayOutputStream bytes = new ByteArrayOutputStream();
        try (URLClassLoader loader = new URLClassLoader(new URL[] {folder.toUri().toURL()}, ReadmeTest.class.getClassLoader())) {
            System.setOut(new PrintStream(bytes, true, StandardCharsets.UTF_8));
            loader.loadClass("Example").getMethod("main", String[].class).invoke(null, (Object) new String[0]);
        } finally {
            System.setOut(before);
        }
        return bytes.toString(StandardCharsets.UTF_8).replace(System.lineSeparator(), "\n");
    }

    private static void delete(Path folder) throws Exception {
        try (var files = Files.list(folder)) {
            for (Path file : files.toList()) {
                Files.delete(file);
            }
        }
        Files.delete(folder);
    }
}
