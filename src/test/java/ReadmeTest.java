import java.io.ByteArrayOutputStream;
import java.io.IOException;
import java.io.PrintStream;
import java.lang.reflect.Method;
import java.lang.reflect.Modifier;
import java.net.URL;
import java.net.URLClassLoader;
import java.nio.file.DirectoryStream;
import java.nio.file.Files;
import java.nio.file.Path;
import javax.tools.ToolProvider;

/** README.md: its example runs as it says, and it tells of every call and every test. */
public final class ReadmeTest {
    private static final Path PAGE = Path.of("README.md");
    private static final Path TESTS = Path.of("src/test/java");

    private ReadmeTest() {
    }

    public static void main(String[] args) throws IOException, ReflectiveOperationException {
        String page = Files.readString(PAGE);
        Check.due("what the example prints", printed(block(page, "java")), block(page, "text"));
        for (Method call : PaidFaces.class.getDeclaredMethods()) {
            if (Modifier.isPublic(call.getModifiers())) {
                Check.due("the table has " + call.getName(), page.contains("| ") && row(page, call.getName()), true);
            }
        }
        try (DirectoryStream<Path> files = Files.newDirectoryStream(TESTS, "*Test.java")) {
            for (Path file : files) {
                String name = file.getFileName().toString().replace(".java", "");
                Check.due("the list has " + name, page.contains("`" + name + "`"), true);
            }
        }
        Check.due("how the tests run", page.contains("\n    .ci/run\n"), true);
        Check.end();
    }

    private static boolean row(String page, String call) {
        for (String line : page.split("\n")) {
            if (line.startsWith("| ") && line.contains("`" + call + "`")) {
                return true;
            }
        }
        return false;
    }

    /** The first block of the page in such a language. */
    private static String block(String page, String language) {
        int from = page.indexOf("```" + language + "\n");
        int to = from < 0 ? -1 : page.indexOf("\n```\n", from);
        Check.due("a block of " + language, to > from, true);
        return to < 0 ? "" : page.substring(page.indexOf('\n', from) + 1, to + 1);
    }

    private static String printed(String program) throws IOException, ReflectiveOperationException {
        Path room = Files.createTempDirectory("readme");
        Path file = room.resolve("Example.java");
        PrintStream out = System.out;
        try {
            Files.writeString(file, program);
            int refused = ToolProvider.getSystemJavaCompiler().run(null, null, null, "-cp",
                System.getProperty("java.class.path"), "-d", room.toString(), file.toString());
            Check.due("the example compiles", refused, 0);
            if (refused != 0) {
                return "";
            }
            ByteArrayOutputStream bytes = new ByteArrayOutputStream();
            try (URLClassLoader loader = new URLClassLoader(new URL[] {room.toUri().toURL()})) {
                System.setOut(new PrintStream(bytes, true));
                loader.loadClass("Example").getMethod("main", String[].class).invoke(null, (Object) new String[0]);
            } finally {
                System.setOut(out);
            }
            return bytes.toString().replace("\r\n", "\n");
        } finally {
            try (DirectoryStream<Path> left = Files.newDirectoryStream(room)) {
                for (Path one : left) {
                    Files.delete(one);
                }
            }
            Files.delete(room);
        }
    }
}
