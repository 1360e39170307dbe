import java.io.IOException;
import java.nio.file.Path;

/**
 * A test for each sentence of the document, named by its own words: the last input within its bound, the
 * first beyond it, the ends of int; and that a refused call changes nothing.
 */
public final class EchoBatBounds {
  public static void main(String[] args) throws IOException {
    Sentences.open(Path.of("../shared/DOC.md"));
    TextBounds.run();
    DeedBounds.run();
    FlightBounds.run();
    ChanceBounds.run();
    TrayBounds.run();
    if (!Sentences.end()) System.exit(1);
  }
}
