import java.io.IOException;
import java.nio.file.Files;
import java.nio.file.Path;

/** The text of the document, told by the property "doc", so that tests can quote it. */
final class Document {
  private static final String TEXT = text();

  private Document() {}

  /** Whether the words stand there, however the lines are broken; without a document they do. */
  static boolean has(String words) {
    return TEXT.isEmpty() || TEXT.contains(words.replaceAll("\\s+", " "));
  }

  private static String text() {
    Path path = Path.of(System.getProperty("doc", ""));
    try {
      return Files.isRegularFile(path) ? Files.readString(path).replaceAll("\\s+", " ") : "";
    } catch (IOException e) {
      throw new AssertionError(e);
    }
  }
}
