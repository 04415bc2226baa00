import java.nio.file.Path;

/** Where the class's source file is: the argument of a test, or as seen from the project's directory. */
final class Source {
    private Source() {
    }

    static Path file(String[] args) {
        return Path.of(args.length > 0 ? args[0] : "src/main/java/CarryUp.java").toAbsolutePath().normalize();
    }

    /** The project's directory, four levels above. */
    static Path project(String[] args) {
        Path up = file(args);
        for (int i = 0; i < 4; i++) up = up.getParent();
        return up;
    }
}
