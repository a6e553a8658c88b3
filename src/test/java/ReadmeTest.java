import java.io.File;
import java.lang.reflect.Method;
import java.lang.reflect.Modifier;
import java.nio.charset.StandardCharsets;
import java.nio.file.Files;
import java.nio.file.Path;

/** README.md tells every call and every test, and its example prints what it says. */
public final class ReadmeTest {
    private static final Checks CHECKS = new Checks();

    public static void main(String[] args) throws Exception {
        String readme = Files.readString(Path.of("README.md"));
        tellsEveryCall(readme);
        tellsEveryTest(readme);
        CHECKS.due("what the example prints", output(block(readme, "java")), block(readme, "text"));
        CHECKS.end("ReadmeTest");
    }

    private static void tellsEveryCall(String readme) {
        for (Method method : NoneWords.class.getDeclaredMethods()) {
            if (Modifier.isPublic(method.getModifiers())) {
                String call = "| `" + method.getName() + "(";
                CHECKS.due("a row with " + call, readme.contains(call), true);
            }
        }
    }

    private static void tellsEveryTest(String readme) throws Exception {
        try (var files = Files.list(Path.of("src", "test", "java"))) {
            for (Object file : files.toArray()) {
                String name = ((Path) file).getFileName().toString().replace(".java", "");
                if (name.endsWith("Test")) {
                    CHECKS.due("a line with " + name, readme.contains("`" + name + "`"), true);
                }
            }
        }
    }

    /** The first block of such a language; empty if there is none. */
    private static String block(String readme, String language) {
        String[] parts = readme.split("```" + language + "\n", 2);
        return parts.length < 2 ? "" : parts[1].split("```", 2)[0];
    }

    /** Made and run by the two commands that .ci/run uses, so that it needs nothing else. */
    private static String output(String statements) throws Exception {
        Path folder = Files.createTempDirectory("readme");
        Path source = folder.resolve("ReadmeExample.java");
        Path program = folder.resolve("ReadmeExample.class");
        String classes = System.getProperty("java.class.path");
        try {
            Files.writeString(source, "public final class ReadmeExample {\n"
                + "public static void main(String[] args) {\n" + statements + "}\n}\n");
            return printed("javac", "-cp", classes, "-d", folder.toString(), source.toString())
                + printed("java", "-cp", classes + File.pathSeparator + folder, "ReadmeExample");
        } finally {
            Files.deleteIfExists(program);
            Files.deleteIfExists(source);
            Files.deleteIfExists(folder);
        }
    }

    /** Errors go their own way: a machine's settings may add lines there that are no answer. */
    private static String printed(String... command) throws Exception {
        Process process = new ProcessBuilder(command).redirectError(ProcessBuilder.Redirect.INHERIT).start();
        String text = new String(process.getInputStream().readAllBytes(), StandardCharsets.UTF_8);
        CHECKS.due(command[0] + " ends well", process.waitFor(), 0);
        return text.replace(System.lineSeparator(), "\n");
    }
}
