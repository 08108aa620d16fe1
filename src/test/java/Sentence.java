import java.io.IOException;
import java.nio.file.Files;
import java.nio.file.Path;
import java.util.Set;
import java.util.TreeSet;

/** Names the sentence that a test is of; a test must quote the document as it is written. */
final class Sentence {
  private static final Path DOCUMENT = Path.of("../shared/DOC.md");
  private static final int PROMISES = 41;
  private static final Set<Integer> TESTED = new TreeSet<>();
  private static String document = null;

  private Sentence() {
  }

  private static String document() {
    if (document != null) return document;
    try {
      document = Files.readString(DOCUMENT);
    } catch (IOException missing) {
      System.out.println("quotes aren't looked up: there is no " + DOCUMENT);
      document = "";
    }
    return document;
  }

  /** What the promise itself says, or the terms that it is told by. */
  static void of(int promise, String quote) {
    Check.part("promise " + promise + ", '" + quote + "'");
    TESTED.add(promise);
    if (!document().isEmpty() && !document().contains(quote)) Check.due("the document says this", 0, 1);
  }

  static void eachPromiseWasTested() {
    Check.part("all promises");
    for (int promise = 1; promise <= PROMISES; promise++)
      if (!TESTED.contains(promise)) Check.due("promise " + promise + " has a test here", 0, 1);
  }
}
