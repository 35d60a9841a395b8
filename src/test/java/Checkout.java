import java.io.IOException;
import java.nio.file.Files;
import java.nio.file.Path;
import java.util.Comparator;
import java.util.List;
import java.util.stream.Stream;

/** A checkout for a test to run commands in, with a folder shared beside it, all of it for once. */
final class Checkout {
    private final Path room = Files.createTempDirectory("checkout");
    private final Path root = Files.createDirectory(room.resolve("main"));
    private String printed = "";

    Checkout() throws IOException { }

    /** Takes files, or folders with all that is in them, from this checkout. */
    void copy(String... names) throws IOException {
        for (String name : names) {
            try (Stream<Path> files = Files.walk(Path.of(name))) {
                for (Path file : files.filter(Files::isRegularFile).toList()) {
                    Path to = root.resolve(file).normalize();
                    Files.createDirectories(to.getParent());
                    Files.copy(file, to);
                    to.toFile().setExecutable(Files.isExecutable(file));
                }
            }
        }
    }

    void write(String name, String text) throws IOException {
        Path to = root.resolve(name).normalize();
        Files.createDirectories(to.getParent());
        Files.writeString(to, text);
    }

    void delete(String name) throws IOException {
        Files.delete(root.resolve(name).normalize());
    }

    /** The exit code of a command of the shell. */
    int run(String command) throws Exception {
        Path out = room.resolve("printed");
        Process process = new ProcessBuilder("bash", "-c", command).directory(root.toFile())
            .redirectErrorStream(true).redirectOutput(out.toFile()).start();
        int code = process.waitFor();
        printed = Files.readString(out);
        return code;
    }

    /** What the latest command printed. */
    String printed() {
        return printed;
    }

    void remove() throws IOException {
        List<Path> all;
        try (Stream<Path> files = Files.walk(room)) {
            all = files.sorted(Comparator.reverseOrder()).toList();
        }
        for (Path file : all) {
            Files.delete(file);
        }
    }
}
