import java.io.File;
import java.io.IOException;
import java.nio.file.Files;
import java.nio.file.Path;
import java.util.List;
import java.util.regex.Matcher;
import java.util.regex.Pattern;
import java.util.stream.Collectors;
import java.util.stream.Stream;

/** The Java that README.md shows, compiled as it stands there: each call answers what stands behind it. */
public final class ReadmeTest {
    private static final Pattern BLOCK = Pattern.compile("^```java\n(.*?)^```$", Pattern.DOTALL | Pattern.MULTILINE);
    private static final Pattern ANSWERED =
        Pattern.compile("(hall\\..*\\)); +// (?:(-?[0-9]+|true|false)|throws (\\w+))(?:: .*)?");
    private static final String NAME = "ReadmeCalls";

    private final StringBuilder helpers = new StringBuilder();
    private final StringBuilder calls = new StringBuilder();
    private int answers = 0;

    private void read(String readme) {
        Matcher block = BLOCK.matcher(readme);
        while (block.find()) {
            if (block.group(1).startsWith("static ")) {
                helpers.append(block.group(1));
            } else {
                block.group(1).lines().forEach(this::readLine);
            }
        }
    }

    private void readLine(String line) {
        Matcher answered = ANSWERED.matcher(line);
        if (answered.matches()) {
            answers++;
            String call = answered.group(1);
            String due = answered.group(2) != null ? answered.group(2) : answered.group(3) + ".class";
            calls.append("c.due(\"").append(call.replace("\\", "\\\\").replace("\"", "\\\"")).append("\", ");
            calls.append(due).append(", () -> ").append(call).append(");\n");
        } else if (line.contains("//")) {
            throw new IllegalStateException("what stands behind this call is no answer: " + line);
        } else {
            calls.append(line).append("\n");
        }
    }

    private String source() {
        return "import java.util.NoSuchElementException;\nfinal class " + NAME + " {\n" + helpers
            + "public static void main(String[] args) {\nCheck c = new Check();\nc.sentence(\"README.md\");\n" + calls
            + "c.finish();\n}\n}\n";
    }

    /** In a machine of its own, so that the calls stand beside BeltHall and Check as any program's would. */
    private static int run(Path folder, String source) throws IOException, InterruptedException {
        Path file = folder.resolve(NAME + ".java");
        Files.writeString(file, source);
        String path = folder + File.pathSeparator + System.getProperty("java.class.path");
        int failed = start("javac", "-encoding", "UTF-8", "-d", folder.toString(), "-cp", path, file.toString());
        if (failed != 0) {
            System.out.println("what README.md shows does not compile");
            return failed;
        }
        return start("java", "-cp", path, NAME);
    }

    private static int start(String... command) throws IOException, InterruptedException {
        return new ProcessBuilder(command).inheritIO().start().waitFor();
    }

    private static void remove(Path folder) throws IOException {
        try (Stream<Path> files = Files.list(folder)) {
            List<Path> all = files.collect(Collectors.toList());
            for (Path file : all) {
                Files.delete(file);
            }
        }
        Files.delete(folder);
    }

    public static void main(String[] args) throws IOException, InterruptedException {
        ReadmeTest readme = new ReadmeTest();
        readme.read(Files.readString(Path.of("README.md")));
        if (readme.answers == 0) {
            System.out.println("README.md shows no call with its answer");
            System.exit(1);
        }
        Path folder = Files.createTempDirectory("readme");
        int failed;
        try {
            failed = run(folder, readme.source());
        } finally {
            remove(folder);
        }
        System.exit(failed == 0 ? 0 : 1);
    }
}
