import java.io.IOException;
import java.nio.file.Files;
import java.nio.file.Path;
import java.util.concurrent.TimeUnit;
import java.util.regex.Matcher;
import java.util.regex.Pattern;

/** Follows "How to use it" of README.md as it is written, in a folder of its own. */
final class ReadmeTest {
    private static final int MOST_SECONDS = 120;
    private static final Path CLASS = Path.of("src", "main", "java", "DraftCommon.java");

    private ReadmeTest() {
    }

    static void run(Path source) throws IOException {
        Path root = source.toAbsolutePath().normalize();
        for (int i = 0; i < CLASS.getNameCount(); i++) {
            root = root.getParent();
        }
        String readme = Files.readString(root.resolve("README.md"));
        Path folder = Files.createTempDirectory("readme");
        try {
            Files.createDirectories(folder.resolve(CLASS).getParent());
            Files.copy(source, folder.resolve(CLASS));
            Files.writeString(folder.resolve("Example.java"), block(readme, "java"));
            String printed = printedBy(folder, block(readme, "sh"));
            String want = block(readme, "text");
            Check.that("the example of README.md prints\n" + printed + "told is\n" + want, printed.equals(want));
        } finally {
            remove(folder);
        }
        Check.that("README.md tells of .ci/run, which can be run",
                readme.contains("\n.ci/run\n") && Files.isExecutable(root.resolve(".ci/run")));
    }

    /** The first block of its kind; it is missing if the answer is empty. */
    private static String block(String readme, String kind) {
        Matcher matcher = Pattern.compile("(?ms)^```" + kind + "\\n(.*?)^```$").matcher(readme);
        boolean found = matcher.find();
        Check.that("README.md has a block of " + kind, found);
        return found ? matcher.group(1) : "";
    }

    private static String printedBy(Path folder, String commands) throws IOException {
        Path out = folder.resolve("printed.txt");
        Process process = new ProcessBuilder("bash", "-e", "-c", commands).directory(folder.toFile())
                .redirectErrorStream(true).redirectOutput(out.toFile()).start();
        try {
            boolean ended = process.waitFor(MOST_SECONDS, TimeUnit.SECONDS);
            Check.that("the commands of README.md end well", ended && process.exitValue() == 0);
        } catch (InterruptedException e) {
            Check.that("the commands of README.md were interrupted", false);
        } finally {
            process.destroyForcibly();
        }
        return Files.readString(out);
    }

    private static void remove(Path folder) throws IOException {
        try (var all = Files.walk(folder)) {
            for (Path path : all.sorted(java.util.Comparator.reverseOrder()).toList()) {
                Files.delete(path);
            }
        }
    }
}
