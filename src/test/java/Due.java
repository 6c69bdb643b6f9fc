import java.io.IOException;
import java.nio.file.Files;
import java.nio.file.Path;

/** What the tests share: they name a call, what it answered, and what is due. */
final class Due {
  private static final Path DOCUMENT = Path.of("../shared/DOC.md");
  private static final int MOST_LINES = 40;
  private static final String document = words();
  private static String sentence = "";
  private static int sentences = 0;
  private static int checked = 0;
  private static int wrong = 0;

  private Due() {
  }

  private static String words() {
    try {
      return Files.exists(DOCUMENT) ? oneLine(Files.readString(DOCUMENT)) : "";
    } catch (IOException unreadable) {
      return "";
    }
  }

  private static String oneLine(String text) {
    return text.replaceAll("\\s+", " ");
  }

  /** What follows tests this sentence, which must stand in the document (where that is at hand). */
  static void says(String words) {
    sentences++;
    sentence = "";
    dueTrue("the document says: " + words, document.isEmpty() || document.contains(oneLine(words)));
    sentence = "\"" + words + "\": ";
  }

  static void due(String call, long got, long want) {
    checked++;
    if (got != want) {
      wrong++;
      if (wrong <= MOST_LINES) {
        System.out.println(sentence + call + " answered " + got + ", due is " + want);
      }
    }
  }

  static void dueTrue(String what, boolean is) {
    due(what, is ? 1 : 0, 1);
  }

  /** Ends the program: with 1, if any answer was wrong. */
  static void end(String test) {
    String of = sentences == 0 ? "" : sentences + " sentences, ";
    System.out.println(test + ": " + of + checked + " answers, " + wrong + " not as due");
    System.exit(wrong == 0 && checked > 0 ? 0 : 1);
  }
}
