import java.io.IOException;
import java.nio.file.Files;
import java.nio.file.Path;

/** Feeds texts, counts what is not as due, and ends a test. */
final class Checks {
  private int wrong;
  private int made;
  /** The words of the document that are tested now; none at first. */
  private String words = "";
  private String document = "";

  /** What follows tests these words, which must stand in the document just so, but for its line ends. */
  void says(String sentence) {
    words = sentence;
    if (document.isEmpty()) {
      document = document();
    }
    if (!document.contains(sentence)) {
      wrong++;
      System.out.println("the document does not say: " + sentence);
    }
  }

  private static String document() {
    try {
      return Files.readString(Path.of(System.getProperty("tracedesk.document", "../shared/DOC.md"))).replaceAll("\\s+", " ");
    } catch (IOException e) {
      throw new IllegalStateException("the document can't be read", e);
    }
  }

  void due(String call, long got, long want) {
    made++;
    if (got != want) {
      wrong++;
      if (wrong <= 40) {
        tell(call, String.valueOf(got), String.valueOf(want));
      }
    }
  }

  private void tell(String call, String got, String want) {
    System.out.println((words.isEmpty() ? "" : "[" + words + "] ") + call + " answered " + got + ", due is " + want);
  }

  /** Rows of answers, told as texts. */
  void due(String call, String got, String want) {
    made++;
    if (!got.equals(want)) {
      wrong++;
      tell(call, got, want);
    }
  }

  void due(String call, boolean got, boolean want) {
    due(call, got ? 1 : 0, want ? 1 : 0);
  }

  int wrong() {
    return wrong;
  }

  /** The tape holds just this text behind what it held. */
  static void tape(TraceDesk desk, String text) {
    int[][] fives = fives(text);
    for (int[] five : fives) {
      desk.feed(five[0], five[1], five[2], five[3], five[4]);
    }
    desk.back(fives.length * 20 - text.length());
  }

  static int[][] fives(String text) {
    int[][] rows = new int[(text.length() + 19) / 20][5];
    for (int i = 0; i < rows.length * 20; i++) {
      int sign = i < text.length() ? text.charAt(i) & 255 : 32;
      rows[i / 20][i % 20 / 4] |= sign << 24 - i % 4 * 8;
    }
    return rows;
  }

  /** A new desk that has read the text; the text must be without fault. */
  TraceDesk desk(String text) {
    TraceDesk desk = new TraceDesk();
    tape(desk, text);
    due("read of " + text, desk.read(), 0);
    return desk;
  }

  void end(String name) {
    System.out.println(name + ": " + made + " answers, " + wrong + " not as due");
    if (wrong != 0 || made == 0) {
      System.exit(1);
    }
  }
}
