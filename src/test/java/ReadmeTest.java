import java.io.ByteArrayOutputStream;
import java.io.File;
import java.io.IOException;
import java.nio.charset.StandardCharsets;
import java.nio.file.Files;
import java.nio.file.Path;
import java.util.ArrayList;
import java.util.List;

/** README.md: its example compiles with the class alone and prints what its comments tell. */
final class ReadmeTest {
    private static final String MAIN = "src/main/java/ScriptFront.java";

    public static void main(String[] args) throws IOException, InterruptedException {
        Probe probe = new Probe("ReadmeTest");
        Path place = Files.createTempDirectory("readme");
        Path example = place.resolve("Example.java");
        Files.writeString(example, exampleOf(Files.readString(Path.of("README.md"))));
        String classes = place.toString();
        probe.due("javac of the example", run("javac", "-d", classes, MAIN, example.toString()), "exit 0");
        probe.due("java of the example", run("java", "-cp", classes, "Example"), "7\n48\n2\n1\na=b+1;\ntrue\nexit 0");
        remove(place.toFile());
        probe.end();
    }

    private static String exampleOf(String readme) {
        String mark = "```java\n";
        int begin = readme.indexOf(mark);
        int end = readme.indexOf("```\n", begin + mark.length());
        return begin < 0 || end < 0 ? "" : readme.substring(begin + mark.length(), end);
    }

    /** Errors go to the test's own, for a machine may tell its settings there. */
    private static String run(String tool, String... arguments) throws IOException, InterruptedException {
        List<String> command = new ArrayList<>();
        command.add(tool);
        command.addAll(List.of(arguments));
        Process process = new ProcessBuilder(command).redirectError(ProcessBuilder.Redirect.INHERIT).start();
        ByteArrayOutputStream told = new ByteArrayOutputStream();
        process.getInputStream().transferTo(told);
        return told.toString(StandardCharsets.ISO_8859_1) + "exit " + process.waitFor();
    }

    private static void remove(File file) {
        File[] parts = file.listFiles();
        for (int i = 0; parts != null && i < parts.length; i++) {
            remove(parts[i]);
        }
        file.delete();
    }
}
