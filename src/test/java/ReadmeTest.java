import java.io.ByteArrayOutputStream;
import java.io.IOException;
import java.io.PrintStream;
import java.lang.reflect.Method;
import java.lang.reflect.Modifier;
import java.net.URL;
import java.net.URLClassLoader;
import java.nio.charset.StandardCharsets;
import java.nio.file.DirectoryStream;
import java.nio.file.Files;
import java.nio.file.Path;
import javax.tools.ToolProvider;

/** README.md: its example prints what it says there, and no call and no test is left out. */
public final class ReadmeTest {
    private static final Check check = new Check();

    public static void main(String[] args) throws Exception {
        String readme = Files.readString(Path.of("README.md"));
        check.sentence("README.md says how to use the class");
        check.due("what the example prints", run(block(readme, "java")), block(readme, "text"));
        namesEveryCall(readme);
        check.sentence("README.md says how to run its tests");
        check.due(".ci/run is named", readme.contains("    .ci/run\n") ? 1 : 0, 1);
        namesEveryTest(readme);
        check.end("ReadmeTest");
    }

    /** The first fenced block of a kind. */
    private static String block(String readme, String kind) {
        String fence = "```" + kind + "\n";
        int from = readme.indexOf(fence);
        int to = from < 0 ? -1 : readme.indexOf("```", from + fence.length());
        check.due("there is a block of " + kind, to < 0 ? 0 : 1, 1);
        return to < 0 ? "" : readme.substring(from + fence.length(), to);
    }

    private static String run(String example) throws Exception {
        Path dir = Files.createTempDirectory("readme");
        Path file = dir.resolve("Example.java");
        try {
            Files.writeString(file, example);
            String classes = System.getProperty("java.class.path");
            int code = ToolProvider.getSystemJavaCompiler().run(null, null, null,
                    "-cp", classes, "-d", dir.toString(), file.toString());
            check.due("javac of the example", code, 0);
            return code == 0 ? printedBy(dir) : "";
        } finally {
            removeAll(dir);
        }
    }

    private static String printedBy(Path dir) throws Exception {
        ByteArrayOutputStream printed = new ByteArrayOutputStream();
        PrintStream usual = System.out;
        try (URLClassLoader loader = new URLClassLoader(new URL[] {dir.toUri().toURL()})) {
            System.setOut(new PrintStream(printed, true, StandardCharsets.UTF_8));
            Method main = loader.loadClass("Example").getMethod("main", String[].class);
            main.invoke(null, (Object) new String[0]);
        } finally {
            System.setOut(usual);
        }
        return printed.toString(StandardCharsets.UTF_8).replace(System.lineSeparator(), "\n");
    }

    private static void removeAll(Path dir) throws IOException {
        try (DirectoryStream<Path> files = Files.newDirectoryStream(dir)) {
            for (Path file : files) {
                Files.delete(file);
            }
        }
        Files.delete(dir);
    }

    private static void namesEveryCall(String readme) {
        for (Method method : FretHands.class.getDeclaredMethods()) {
            if (Modifier.isPublic(method.getModifiers())) {
                String row = "\n| `" + method.getName() + "(";
                check.due("a row for " + method.getName() + "()", readme.contains(row) ? 1 : 0, 1);
            }
        }
    }

    private static void namesEveryTest(String readme) throws IOException {
        try (DirectoryStream<Path> files = Files.newDirectoryStream(Path.of("src/test/java"), "*Test.java")) {
            for (Path file : files) {
                String name = file.getFileName().toString().replace(".java", "");
                check.due(name + " is named", readme.contains("`" + name + "`") ? 1 : 0, 1);
            }
        }
    }
}
