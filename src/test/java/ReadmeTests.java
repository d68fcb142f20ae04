import java.io.ByteArrayOutputStream;
import java.io.IOException;
import java.io.PrintStream;
import java.lang.reflect.Method;
import java.lang.reflect.Modifier;
import java.net.URL;
import java.net.URLClassLoader;
import java.nio.charset.StandardCharsets;
import java.nio.file.DirectoryStream;
import java.nio.file.Files;
import java.nio.file.Path;
import javax.tools.ToolProvider;

/** README.md as someone takes it who has nothing else: its example runs, and it names all that is there. */
public final class ReadmeTests {
    private static final Check check = new Check("ReadmeTests");

    public static void main(String[] args) throws Exception {
        String page = Files.readString(Path.of("README.md"));
        check.text("the example", printedBy(block(page, "java")), block(page, "text"));
        namesEveryCall(page);
        namesEveryTest(page);
        check.yes(".ci/run stands in a block of its own", page.contains("```sh\n.ci/run\n```"));
        check.end();
    }

    /** What stands in the first block of that kind. */
    private static String block(String page, String kind) {
        String head = "```" + kind + "\n";
        int start = page.indexOf(head);
        int end = start < 0 ? -1 : page.indexOf("```", start + head.length());
        return end < 0 ? "" : page.substring(start + head.length(), end);
    }

    private static String printedBy(String example) throws Exception {
        Path folder = Files.createTempDirectory("readme");
        Path source = Files.writeString(folder.resolve("Example.java"), example);
        String classes = System.getProperty("java.class.path");
        int failed = ToolProvider.getSystemJavaCompiler().run(
                null, null, null, "-cp", classes, "-d", folder.toString(), source.toString());
        String printed = failed != 0 ? "nothing: it does not compile" : run(folder);
        removeAll(folder);
        return printed;
    }

    private static String run(Path folder) throws Exception {
        PrintStream before = System.out;
        ByteArrayOutputStream bytes = new ByteArrayOutputStream();
        try (URLClassLoader loader = new URLClassLoader(new URL[] {folder.toUri().toURL()})) {
            System.setOut(new PrintStream(bytes, true, StandardCharsets.UTF_8));
            loader.loadClass("Example").getMethod("main", String[].class).invoke(null, (Object) new String[0]);
        } finally {
            System.setOut(before);
        }
        return bytes.toString(StandardCharsets.UTF_8).replace("\r\n", "\n");
    }

    private static void removeAll(Path folder) throws IOException {
        try (DirectoryStream<Path> files = Files.newDirectoryStream(folder)) {
            for (Path file : files) {
                Files.delete(file);
            }
        }
        Files.delete(folder);
    }

    private static void namesEveryCall(String page) {
        for (Method method : PermutationDesk.class.getDeclaredMethods()) {
            if (Modifier.isPublic(method.getModifiers())) {
                check.yes("a row for " + method.getName(), page.contains("\n| `" + method.getName() + "("));
            }
        }
    }

    private static void namesEveryTest(String page) throws IOException {
        try (DirectoryStream<Path> files = Files.newDirectoryStream(Path.of("src/test/java"), "*.java")) {
            for (Path file : files) {
                check.yes("names " + file.getFileName(), page.contains("`" + file.getFileName() + "`"));
            }
        }
    }
}
