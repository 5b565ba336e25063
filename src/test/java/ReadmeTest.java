import java.io.ByteArrayOutputStream;
import java.io.File;
import java.io.IOException;
import java.io.PrintStream;
import java.net.URL;
import java.net.URLClassLoader;
import java.nio.file.Files;
import java.nio.file.Path;
import java.util.Comparator;
import java.util.List;
import java.util.stream.Collectors;
import java.util.stream.Stream;
import javax.tools.JavaCompiler;
import javax.tools.ToolProvider;

/** The program in README.md compiles as it stands there, and writes what README.md says. */
public final class ReadmeTest {
    private static String block(String page, String language) {
        String opening = "```" + language + "\n";
        int from = page.indexOf(opening) + opening.length();
        return page.substring(from, page.indexOf("```", from));
    }

    private static String written(Path classes) throws ReflectiveOperationException, IOException {
        PrintStream console = System.out;
        ByteArrayOutputStream bytes = new ByteArrayOutputStream();
        try (URLClassLoader loader = new URLClassLoader(new URL[] {classes.toUri().toURL()})) {
            System.setOut(new PrintStream(bytes, true));
            loader.loadClass("Example").getMethod("main", String[].class).invoke(null, (Object) new String[0]);
        } finally {
            System.setOut(console);
        }
        return bytes.toString();
    }

    private static void remove(Path directory) throws IOException {
        List<Path> all;
        try (Stream<Path> found = Files.walk(directory)) {
            all = found.sorted(Comparator.reverseOrder()).collect(Collectors.toList());
        }
        for (Path path : all) {
            Files.delete(path);
        }
    }

    private static String compileAndRun(String program) throws ReflectiveOperationException, IOException {
        Path directory = Files.createTempDirectory("readme");
        try {
            Path source = directory.resolve("Example.java");
            Files.writeString(source, program);
            JavaCompiler javac = ToolProvider.getSystemJavaCompiler();
            int code = javac.run(null, null, null, "-d", directory.toString(),
                "-cp", System.getProperty("java.class.path"), source.toString());
            return code == 0 ? written(directory) : "(it does not compile)";
        } finally {
            remove(directory);
        }
    }

    public static void main(String[] args) throws ReflectiveOperationException, IOException {
        String page = Files.readString(new File("README.md").toPath());
        String due = block(page, "text");
        String got = compileAndRun(block(page, "java")).replace(System.lineSeparator(), "\n");
        if (!got.equals(due)) {
            System.out.println("the program in README.md wrote\n" + got + "README.md says\n" + due);
            System.exit(1);
        }
        System.out.println("ReadmeTest: the program writes what README.md says");
    }
}
