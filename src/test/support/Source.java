import java.io.IOException;
import java.nio.file.Files;
import java.nio.file.Path;

/** The source of the class, for the tests of how it is written. */
final class Source {
    private static final Path FILE = Path.of("src/main/java/SegmentShelf.java");

    private Source() {
    }

    static String withoutComments() throws IOException {
        return Files.readString(FILE).replaceAll("(?s)/\\*.*?\\*/", "").replaceAll("//[^\n]*", "");
    }
}
