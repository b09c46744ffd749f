/** Answers of a desk, one behind the other, as a text. */
final class Rows {
  private Rows() { }

  /** The blocks of a trace. */
  static String members(TraceDesk desk, int trace) {
    StringBuilder row = new StringBuilder();
    for (int i = 0; i < 8 && desk.member(trace, i) >= 0; i++) {
      row.append(i == 0 ? "" : " ").append(desk.member(trace, i));
    }
    return row.toString();
  }

  /** The blocks of all traces, with bars between them. */
  static String traces(TraceDesk desk) {
    StringBuilder row = new StringBuilder();
    for (int t = 0; t < desk.traces(); t++) {
      row.append(t == 0 ? "" : " | ").append(members(desk, t));
    }
    return row.toString();
  }

  /** The same of each item of a trace. */
  static String items(TraceDesk desk, int trace, int what) {
    StringBuilder row = new StringBuilder();
    for (int i = 0; i < desk.trace(trace, 1); i++) {
      row.append(i == 0 ? "" : " ").append(desk.item(trace, i, what));
    }
    return row.toString();
  }

  /** What a run left, as a fast one would: the six registers. */
  static String left(TraceDesk desk) {
    StringBuilder row = new StringBuilder();
    for (int r = 0; r < 6; r++) {
      row.append(r == 0 ? "" : " ").append(desk.left(r));
    }
    return row.toString();
  }

  /** All that follows from a text, counts, units and renaming, and from registers and cells: some 200 calls for small texts. */
  static String all(TraceDesk desk) {
    StringBuilder row = new StringBuilder();
    for (int what = 0; what < 12; what++) {
      row.append(what == 8 || what == 9 || what == 11 ? "" : desk.count(what) + " ");
    }
    for (int b = 0; b < desk.count(0); b++) {
      for (int what = 2; what < 8; what++) {
        row.append(desk.block(b, what)).append(' ');
      }
    }
    for (int t = 0; t < desk.traces(); t++) {
      row.append("| ").append(members(desk, t)).append(", ");
      for (int what : new int[] {3, 5, 6, 7, 9}) {
        row.append(desk.trace(t, what)).append(' ');
      }
      row.append(", ").append(items(desk, t, 1)).append(", ").append(items(desk, t, 4)).append(", ").append(items(desk, t, 5));
    }
    for (int what = 0; what < 4; what++) {
      row.append("; ").append(desk.growth(what)).append(' ').append(desk.saved(what)).append(' ').append(desk.slow(what));
    }
    row.append("; ").append(fast(desk)).append("; ").append(left(desk));
    for (int cell = 0; cell < 8; cell++) {
      row.append(' ').append(desk.left(8 + cell));
    }
    return row.toString();
  }

  /** All that is told of a fast run. */
  static String fast(TraceDesk desk) {
    StringBuilder row = new StringBuilder();
    for (int what = 0; what < 5; what++) {
      row.append(what == 0 ? "" : " ").append(desk.fast(what));
    }
    return row.toString();
  }
}
