import java.io.IOException;
import java.io.UncheckedIOException;
import java.nio.file.Files;
import java.nio.file.Path;
import java.util.BitSet;

/** Tests of single sentences of the document, each named by the very words that it holds the program to. */
final class Sentences {
  private static final String TEXT = read();
  private static final BitSet quoted = new BitSet();

  private Sentences() {}

  /** The document on one line: without headings and fences, and without what it says is not promised. */
  private static String read() {
    try {
      String all = Files.readString(Path.of(System.getProperty("document", "../shared/DOC.md")));
      return all.substring(0, all.indexOf("## Not promised"))
          .replaceAll("(?m)^(#|```).*$", "").replaceAll("\\s+", " ");
    } catch (IOException e) {
      throw new UncheckedIOException(e);
    }
  }

  /** Runs the test of a sentence, which must stand in the document once. */
  static void holds(String words, Runnable test) {
    Checks.setAbout(words.length() > 60 ? words.substring(0, 60) + " .." : words);
    int at = TEXT.indexOf(words);
    Checks.same("stands in the document", at >= 0, true);
    Checks.same("stands there once", TEXT.lastIndexOf(words), at);
    if (at >= 0) {
      quoted.set(at, at + words.length());
    }
    int before = Checks.checked();
    Checks.same("the test came to its end", Checks.outcome(() -> Checks.done(test)), "done");
    Checks.same("something was tested", Checks.checked() > before + 1, true);
    Checks.setAbout("");
  }

  /** No number of the document is left that no test has quoted. */
  static void allNumbersQuoted() {
    for (int i = 0; i < TEXT.length(); i++) {
      if (Character.isDigit(TEXT.charAt(i))) {
        String near = TEXT.substring(Math.max(0, i - 50), Math.min(TEXT.length(), i + 50));
        Checks.same("a number is quoted, near '" + near + "'", quoted.get(i), true);
      }
    }
  }
}
