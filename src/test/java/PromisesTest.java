/** Each promise by hand: ordinary inputs, the edges that the document names, and wrong inputs. */
public final class PromisesTest {
  private static final Checks C = new Checks();
  private static final int MIN = Integer.MIN_VALUE;
  private static final int MAX = Integer.MAX_VALUE;

  /** Counts to 5, then doubles. */
  private static final String LOOP = "block top; a=a+1; if a<5 goto top else out; block out; b=a*2; stop;";
  /** A guess that may fault, two lines renamed; items: 0 load, 1 split, 2 line, 3 copy, 4 line, 5 copy, 6 exit. */
  private static final String GUESS = "block x; a=at 1; if a<5 goto y else z; block y; b=b/a; c=b+1; stop;"
      + "block z; d=7+0; stop;";
  /** Two hard lines ahead of a split, one of them copied; items: 0, 1 lines, 2 split, 3 exit. */
  private static final String COPIED = "block x; c=d*2; e=f*3; if d<5 goto y else z; block y; stop; block z; stop;";
  /** What was begun most stands in the midst of its trace. */
  private static final String MIDST = "block s; if a<2 goto p else q; block p; a=9+0; goto m; block q; a=5-1; goto m;"
      + "block m; a=a+1; if a<6 goto m else t; block t; stop;";

  private PromisesTest() { }

  public static void main(String[] args) {
    newObject();
    feed();
    back();
    readFaultsOfForm();
    readFaultsOfRoom();
    readFaultsOfMeaning();
    readReplaces();
    place();
    reg();
    cell();
    kind();
    block();
    live();
    gone();
    set();
    put();
    run();
    arithmetic();
    clear();
    rename();
    units();
    undo();
    traces();
    trace();
    member();
    item();
    renamedAtMostSix();
    needs();
    needsOfCells();
    copied();
    busy();
    slow();
    fast();
    fastTooLong();
    fastFaults();
    agrees();
    left();
    growth();
    saved();
    hold();
    restore();
    count();
    fullest();
    C.end("PromisesTest");
  }

  private static TraceDesk midst() {
    TraceDesk x = C.desk(MIDST);
    C.due("run p", x.run(), 0);
    x.set(0, 0);
    C.due("run p", x.run(), 0);
    C.due("run q", x.run(), 0);
    return x;
  }

  private static void fault(String text, int number, int place) {
    TraceDesk x = new TraceDesk();
    Checks.tape(x, text);
    C.due("read of " + text, x.read(), number);
    C.due("place of " + text, x.place(), place);
  }

  private static void newObject() {
    TraceDesk x = new TraceDesk();
    int[] due = {0, 0, 1, 0, 0, 0, 0, 0, 0, 0, 0, 0, -1};
    for (int what = 0; what < due.length; what++) {
      C.due("count(" + what + ") of a new one", x.count(what), due[what]);
    }
    C.due("NONE", TraceDesk.NONE, -1);
    C.due("run() of a new one", x.run(), 0);
    C.due("agrees() of a new one", x.agrees(), 1);
    C.due("block(0, 0) of a new one", x.block(0, 0), -1);
    C.due("place() of a new one", x.place(), -1);
  }

  private static void feed() {
    TraceDesk x = new TraceDesk();
    for (int n = 1; n <= 100; n++) {
      C.due("feed", x.feed(0x20202020, 0x0a0d0920, 0x20202020, 0x20202020, 0x20202020), n * 20);
    }
    C.due("feed to 2,020", x.feed(0, 0, 0, 0, 0), -1);
    C.due("count(8)", x.count(8), 2000);
    C.due("back(19)", x.back(19), 1981);
    C.due("feed to 2,001", x.feed(0, 0, 0, 0, 0), -1);
    C.due("back(1)", x.back(1), 1980);
    C.due("feed to 2,000", x.feed(0x20202020, 0x20202020, 0x20202020, 0x20202020, 0x20202041), 2000);
    C.due("read", x.read(), 1);
    C.due("the last byte is the lowest of e", x.place(), 1999);
    x.feed(0x41202020, MIN, -1, MAX, 0);
    C.due("read", x.read(), 1);
    C.due("the first byte is the highest of a", x.place(), 0);
    x.feed(0x20202020, 0x20202020, 0x20202020, 0x20204120, 0);
    C.due("read", x.read(), 1);
    C.due("a byte of d", x.place(), 14);
  }

  private static void back() {
    TraceDesk x = new TraceDesk();
    C.due("back(0)", x.back(0), 0);
    C.due("back(1) of none", x.back(1), -1);
    x.feed(1, 2, 3, 4, 5);
    C.due("back(-1)", x.back(-1), -1);
    C.due("back(MIN)", x.back(MIN), -1);
    C.due("back(21)", x.back(21), -1);
    C.due("back(MAX)", x.back(MAX), -1);
    C.due("count(8)", x.count(8), 20);
    C.due("back(5)", x.back(5), 15);
    C.due("back(15)", x.back(15), 0);
    C.due("read", x.read(), 0);
  }

  private static void readFaultsOfForm() {
    fault("", 0, -1);
    fault(" \t\r\n", 0, -1);
    fault("units sums 4 6;units sums 1 1;units hard 0001 0006;", 0, -1);
    fault("unitssums1 1;", 1, 0);
    fault("units sums1 1;block x;a=b+1;stop;", 0, -1);
    fault("units sums1 1", 1, 13);
    fault("block x; stop", 1, 13);
    fault("block x; stop  ", 1, 15);
    fault("block x;", 1, 8);
    fault("block a; stop;", 1, 6);
    fault("block stop; stop;", 1, 6);
    fault("block 12; stop;", 1, 6);
    fault("block abcdefgh; stop;", 0, -1);
    fault("block abcdefghi; stop;", 1, 6);
    fault("units sums 12345 1;", 1, 11);
    fault("units g 1 1;", 1, 6);
    fault("units at 1 1;", 1, 6);
    fault("units block 1 1;", 1, 6);
    fault("units jumps 1;", 1, 13);
    fault("A", 1, 0);
    fault("block x; \u00e9", 1, 9);
    fault("block x; \u000b", 1, 9);
    fault("block x; g=1+1; stop;", 1, 9);
    fault("block x; a=1; stop;", 1, 12);
    fault("block x; a=at b+1; stop;", 1, 15);
    fault("block x; a=g+1; stop;", 1, 11);
    fault("block x; at 1 b; stop;", 1, 14);
    fault("block x; at 1=at 2; stop;", 1, 14);
    fault("block x; 1=a+1; stop;", 1, 9);
    fault("block x; if 1<a goto x else x;", 1, 12);
    fault("block x; if a<1 goto x;", 1, 22);
    fault("block x; if a<1 else x goto x;", 1, 16);
    fault("block x; goto a;", 1, 14);
    fault("block x; stop; a=a+1;", 1, 15);
    fault("block x; stop;;", 1, 14);
    fault("block x; a=a%1; stop;", 1, 12);
    fault("block x;a=0-1;at 9999=f;b=at 0;if a<b goto x else x;", 0, -1);
  }

  private static String blocks(int n) {
    StringBuilder text = new StringBuilder();
    for (int i = 0; i < n; i++) {
      text.append("block x").append("stuvwxyzg".charAt(i)).append(";stop;");
    }
    return text.toString();
  }

  private static String lines(int n) {
    return "block x;" + "at 1=2;".repeat(n);
  }

  private static void readFaultsOfRoom() {
    fault(blocks(8), 0, -1);
    fault(blocks(9), 2, blocks(8).length());
    fault(blocks(8) + "block", 2, blocks(8).length());
    fault(blocks(8) + "stop", 1, blocks(8).length());
    fault(lines(6) + "stop;", 0, -1);
    fault(lines(7) + "stop;", 2, lines(6).length());
    fault(lines(6) + "a", 2, lines(6).length());
    fault(lines(6) + "at", 2, lines(6).length());
    fault(lines(6) + "units", 1, lines(6).length());
    fault("block x;stop;block x;stop;" + lines(7), 2, 26 + lines(6).length());
    String five = "units sums 1 1;";
    fault(five.repeat(80), 0, -1);
    fault(five.repeat(81), 2, 80 * five.length());
    fault(five.repeat(80) + "units 1", 2, 80 * five.length());
    fault(five.repeat(80) + "sums", 1, 80 * five.length());
    fault(five.repeat(80) + " A", 1, 80 * five.length() + 1);
    fault(five.repeat(79) + "units sums 1 1", 1, 80 * five.length() - 1);
    fault("block x;stop;" + five.repeat(79) + "units sums 1", 2, 13 + 79 * five.length());
    fault("units sums 9 1;" + five.repeat(80), 2, 80 * five.length());
  }

  private static void readFaultsOfMeaning() {
    fault("block x; stop; block x; stop;", 3, 21);
    fault("block x; stop; block x; stop; block x; goto n;", 3, 21);
    fault("block x; goto n; block x; stop;", 4, 14);
    fault("block x; if a<1 goto x else n; block x; stop;", 4, 28);
    fault("block x; if a<1 goto n else m;", 4, 21);
    fault("block x; goto y; block y; stop;", 0, -1);
    fault("units sums 0 1;", 5, 11);
    fault("units hard 5 1;", 5, 11);
    fault("units cells 4 7;", 5, 14);
    fault("units jumps 1 0;", 5, 14);
    fault("units jumps 1 0; block x; goto n;", 5, 14);
    fault("block x; goto n; units jumps 1 0;", 4, 14);
    fault("units sums 9 1; units sums 1 1;", 5, 11);
    fault("block x; goto n; block", 1, 22);
  }

  private static void readReplaces() {
    TraceDesk x = C.desk("units sums 3 2; units sums 2 5; " + LOOP);
    C.due("the last units told", x.kind(0, 0), 2);
    C.due("the last units told", x.kind(0, 1), 5);
    x.set(2, 7);
    x.put(3, 8);
    x.run();
    x.rename(false);
    x.hold(1);
    Checks.tape(x, "block x; oops");
    C.due("read of a fault", x.read(), 1);
    C.due("the tape is empty", x.count(8), 0);
    C.due("a fault changes nothing: blocks", x.count(0), 2);
    C.due("a fault changes nothing: register", x.reg(2), 7);
    C.due("a fault changes nothing: undone", x.count(9), 4);
    C.due("a fault changes nothing: held", x.count(11), 1);
    C.due("a fault changes nothing: run", x.slow(0), 0);
    Checks.tape(x, "block y; stop;");
    C.due("read", x.read(), 0);
    C.due("blocks", x.count(0), 1);
    C.due("register", x.reg(2), 0);
    C.due("cell", x.cell(3), 0);
    C.due("counted", x.count(3), 0);
    C.due("renaming", x.count(2), 1);
    C.due("units", x.kind(0, 0), 1);
    C.due("latency", x.kind(0, 1), 1);
    C.due("undone", x.undo(), false);
    C.due("held", x.restore(1), false);
    C.due("held", x.count(11), 0);
  }

  private static void place() {
    TraceDesk x = new TraceDesk();
    Checks.tape(x, "block x; oops");
    x.hold(0);
    x.read();
    C.due("place()", x.place(), 9);
    C.due("place() again", x.place(), 9);
    x.restore(0);
    C.due("place() is of the latest read", x.place(), 9);
    x.read();
    C.due("place() without a fault", x.place(), -1);
  }

  private static void reg() {
    TraceDesk x = new TraceDesk();
    for (int r = 0; r < 6; r++) {
      x.set(r, r - 100);
    }
    for (int r = 0; r < 6; r++) {
      C.due("reg", x.reg(r), r - 100);
    }
    C.due("reg(-1)", x.reg(-1), 0);
    C.due("reg(6)", x.reg(6), 0);
    C.due("reg(MIN)", x.reg(MIN), 0);
    C.due("reg(MAX)", x.reg(MAX), 0);
  }

  private static void cell() {
    TraceDesk x = new TraceDesk();
    for (int c = 0; c < 8; c++) {
      x.put(c, c + 100);
    }
    for (int c = 0; c < 8; c++) {
      C.due("cell", x.cell(c), c + 100);
    }
    C.due("cell(-1)", x.cell(-1), 0);
    C.due("cell(8)", x.cell(8), 0);
    C.due("cell(MIN)", x.cell(MIN), 0);
  }

  private static void kind() {
    TraceDesk x = C.desk("units cells 3 4; block x; stop;");
    int[] units = {1, 1, 3, 1};
    int[] latencies = {1, 3, 4, 1};
    for (int k = 0; k < 4; k++) {
      C.due("units of " + k, x.kind(k, 0), units[k]);
      C.due("latency of " + k, x.kind(k, 1), latencies[k]);
    }
    C.due("kind(-1, 0)", x.kind(-1, 0), -1);
    C.due("kind(4, 0)", x.kind(4, 0), -1);
    C.due("kind(0, 2)", x.kind(0, 2), -1);
    C.due("kind(0, -1)", x.kind(0, -1), -1);
    C.due("kind(MAX, MIN)", x.kind(MAX, MIN), -1);
  }

  private static void block() {
    TraceDesk x = midst();
    // lines, end, begun, ways, live, trace, place, joined
    int[][] due = {
      {0, 1, 3, 1, 2, 63, 0, 0, 0}, {1, 0, 2, 3, -2, 62, 0, 1, 0}, {1, 0, 1, 3, -2, 62, 1, 0, 0},
      {1, 1, 4, 3, 4, 63, 0, 2, 1}, {0, 2, 3, -2, -2, 63, 0, 3, 1}};
    for (int b = 0; b < due.length; b++) {
      for (int what = 0; what < 9; what++) {
        C.due("block(" + b + ", " + what + ")", x.block(b, what), due[b][what]);
      }
    }
    C.due("block(5, 0)", x.block(5, 0), -1);
    C.due("block(-1, 0)", x.block(-1, 0), -1);
    C.due("block(0, 9)", x.block(0, 9), -1);
    C.due("block(0, -1)", x.block(0, -1), -1);
    C.due("block(MIN, MAX)", x.block(MIN, MAX), -1);
  }

  private static void live() {
    TraceDesk x = C.desk("block x; a=b+1; c=a+d; goto y; block y; at e=f; goto x;"
        + "block z; a=a+1; if c<d goto z else w; block w; a=at b; goto w;");
    C.due("live in a loop without a stop", x.block(0, 5), 2 + 8 + 16 + 32);
    C.due("live of a store", x.block(1, 5), 2 + 8 + 16 + 32);
    C.due("read ahead of being set", x.block(2, 5), 1 + 2 + 4 + 8);
    C.due("live of a load", x.block(3, 5), 2);
  }

  private static void gone() {
    TraceDesk x = midst();
    int[][] due = {{2, 1}, {2, -1}, {1, -1}, {1, 3}, {-1, -1}};
    for (int b = 0; b < due.length; b++) {
      C.due("gone(" + b + ", 0)", x.gone(b, 0), due[b][0]);
      C.due("gone(" + b + ", 1)", x.gone(b, 1), due[b][1]);
    }
    C.due("gone(0, 2)", x.gone(0, 2), -1);
    C.due("gone(0, -1)", x.gone(0, -1), -1);
    C.due("gone(5, 0)", x.gone(5, 0), -1);
    C.due("gone(-1, 0)", x.gone(-1, 0), -1);
    C.due("gone(MAX, MIN)", x.gone(MAX, MIN), -1);
  }

  private static void set() {
    TraceDesk x = C.desk(LOOP);
    C.due("set(0, 0) is so", x.set(0, 0), false);
    C.due("set(5, MIN)", x.set(5, MIN), true);
    C.due("set(5, MIN) again", x.set(5, MIN), false);
    C.due("set(6, 1)", x.set(6, 1), false);
    C.due("set(-1, 1)", x.set(-1, 1), false);
    C.due("reg(5)", x.reg(5), MIN);
    C.due("done", x.count(9), 1);
    x.set(0, 3);
    C.due("a run from there", x.slow(2), 3);
  }

  private static void put() {
    TraceDesk x = C.desk("block x; a=at 7; stop;");
    C.due("put(0, 0) is so", x.put(0, 0), false);
    C.due("put(7, MAX)", x.put(7, MAX), true);
    C.due("put(7, MAX) again", x.put(7, MAX), false);
    C.due("put(8, 1)", x.put(8, 1), false);
    C.due("put(-1, 1)", x.put(-1, 1), false);
    C.due("cell(7)", x.cell(7), MAX);
    C.due("done", x.count(9), 1);
    C.due("left(0)", x.left(0), MAX);
  }

  private static void run() {
    TraceDesk x = C.desk(LOOP);
    C.due("run()", x.run(), 0);
    C.due("a", x.reg(0), 5);
    C.due("b", x.reg(1), 10);
    C.due("begun", x.block(0, 2), 5);
    C.due("begun", x.block(1, 2), 1);
    C.due("way 0", x.gone(0, 0), 4);
    C.due("way 1", x.gone(0, 1), 1);
    C.due("run() again", x.run(), 0);
    C.due("counts are added", x.block(0, 2), 6);
    C.due("a", x.reg(0), 6);
    x = C.desk("block x; a=a+1; at 2=a; if a<9 goto x else y; block y; b=1/c; stop;");
    C.due("run() that faults", x.run(), 1);
    C.due("registers as they were", x.reg(0), 0);
    C.due("cells as they were", x.cell(2), 0);
    C.due("counted too", x.block(0, 2), 9);
    C.due("the block in which it faults was begun", x.block(1, 2), 1);
    C.due("done", x.count(9), 1);
    x = C.desk("block x; a=a+1; if a<200 goto x else y; block y; stop;");
    C.due("a 201st block would begin", x.run(), 2);
    C.due("registers as they were", x.reg(0), 0);
    C.due("way 0", x.gone(0, 0), 199);
    C.due("way 1", x.gone(0, 1), 1);
    C.due("begun", x.block(1, 2), 0);
    x.set(0, 1);
    C.due("200 blocks", x.run(), 0);
    C.due("begun", x.block(0, 2), 399);
    x = C.desk("block x; at 0=1; at 8=1; stop;");
    C.due("no such cell", x.run(), 1);
    x = C.desk("block x; a=at 8; stop;");
    C.due("no such cell", x.run(), 1);
    x = C.desk("block x; b=0-1; a=at b; stop;");
    C.due("no such cell", x.run(), 1);
  }

  private static void arithmetic() {
    TraceDesk x = C.desk("block x; c=a+b; d=a-b; e=a*b; f=a/b; at 3=f; at 4=9999; stop;");
    int[][] pairs = {{7, 2}, {-7, 2}, {7, -2}, {MIN, -1}, {MAX, 2}, {MIN, MIN}, {0, 5}};
    for (int[] p : pairs) {
      x.set(0, p[0]);
      x.set(1, p[1]);
      C.due("run()", x.run(), 0);
      C.due("+", x.reg(2), p[0] + p[1]);
      C.due("-", x.reg(3), p[0] - p[1]);
      C.due("*", x.reg(4), p[0] * p[1]);
      C.due("/", x.reg(5), (int) ((long) p[0] / p[1]));
      C.due("store", x.cell(3), x.reg(5));
      C.due("store", x.cell(4), 9999);
    }
    TraceDesk y = C.desk("block x; if a<b goto y else z; block y; c=1+0; stop; block z; c=2+0; stop;");
    y.set(0, -1);
    y.set(1, -1);
    y.run();
    C.due("alike is not less", y.reg(2), 2);
    y.set(0, MIN);
    y.set(1, MAX);
    y.run();
    C.due("less with all 32 bits", y.reg(2), 1);
  }

  private static void clear() {
    TraceDesk x = C.desk(LOOP);
    C.due("nothing was counted", x.clear(), -1);
    C.due("nothing happens", x.count(9), 0);
    x.run();
    C.due("clear()", x.clear(), 6);
    C.due("begun", x.count(3), 0);
    C.due("gone", x.gone(0, 0), 0);
    C.due("registers stay", x.reg(0), 5);
    C.due("done", x.count(9), 2);
    C.due("clear() again", x.clear(), -1);
    x.units(0, 3, 2);
    x.units(3, 3, 2);
    x.put(7, 5);
    x.run();
    x.clear();
    C.due("units stay", x.kind(0, 0) * 10 + x.kind(3, 0), 33);
    C.due("cells stay", x.cell(7), 5);
  }

  private static void rename() {
    TraceDesk x = C.desk(GUESS);
    C.due("it is on", x.rename(true), false);
    C.due("items", x.trace(0, 1), 7);
    C.due("rename(false)", x.rename(false), true);
    C.due("rename(false) again", x.rename(false), false);
    C.due("items", x.trace(0, 1), 5);
    C.due("renamed", x.trace(0, 6), 0);
    C.due("b must wait for the split", x.needs(0, 1, 2), 1);
    C.due("length", x.trace(0, 2), 7);
    C.due("guesses", x.trace(0, 8), 0);
    C.due("done", x.count(9), 1);
    C.due("rename(true)", x.rename(true), true);
    C.due("items", x.trace(0, 1), 7);
  }

  private static void units() {
    TraceDesk x = C.desk(COPIED);
    C.due("as they are", x.units(1, 1, 3), false);
    C.due("kind -1", x.units(-1, 2, 2), false);
    C.due("kind 4", x.units(4, 2, 2), false);
    C.due("no units", x.units(1, 0, 3), false);
    C.due("5 units", x.units(1, 5, 3), false);
    C.due("latency 0", x.units(1, 1, 0), false);
    C.due("latency 7", x.units(1, 1, 7), false);
    C.due("nothing happened", x.count(9), 0);
    C.due("another latency", x.units(1, 1, 6), true);
    C.due("other units", x.units(1, 4, 6), true);
    C.due("units", x.kind(1, 0), 4);
    C.due("latency", x.kind(1, 1), 6);
    C.due("the others stay", x.kind(2, 1), 2);
    C.due("both hard lines at once", x.item(0, 1, 1), 0);
    C.due("slow cycles", x.slow(1), 14);
    C.due("done", x.count(9), 2);
  }

  private static void undo() {
    TraceDesk x = C.desk(LOOP);
    C.due("there is none", x.undo(), false);
    x.set(2, 9);
    x.put(2, 9);
    x.run();
    x.clear();
    x.rename(false);
    x.units(3, 2, 2);
    x.set(9, 9);
    x.rename(false);
    C.due("six things", x.count(9), 6);
    C.due("undo units", x.undo(), true);
    C.due("units", x.kind(3, 0) * 10 + x.kind(3, 1), 11);
    C.due("undo rename", x.undo(), true);
    C.due("renaming", x.count(2), 1);
    C.due("undo clear", x.undo(), true);
    C.due("counts", x.count(3), 6);
    C.due("gone", x.gone(0, 0), 4);
    C.due("undo run", x.undo(), true);
    C.due("counts", x.count(3), 0);
    C.due("a", x.reg(0), 0);
    C.due("undo put", x.undo(), true);
    C.due("cell", x.cell(2), 0);
    C.due("register", x.reg(2), 9);
    C.due("undo set", x.undo(), true);
    C.due("register", x.reg(2), 0);
    C.due("none more", x.undo(), false);
    for (int n = 1; n <= 45; n++) {
      x.set(4, n);
    }
    C.due("the last 40", x.count(9), 40);
    for (int n = 44; n >= 5; n--) {
      C.due("undo", x.undo(), true);
      C.due("register", x.reg(4), n);
    }
    C.due("none more", x.undo(), false);
    C.due("register", x.reg(4), 5);
    x.set(4, 1);
    x.hold(0);
    x.restore(0);
    C.due("behind a restore nothing", x.undo(), false);
  }

  private static void traces() {
    C.due("traces()", new TraceDesk().traces(), 0);
    C.due("traces()", midst().traces(), 2);
    TraceDesk x = C.desk("block x; a=a+1; if a<3 goto y else z; block y; goto x;"
        + "block z; if b<1 goto x else w; block w; stop;");
    C.due("nothing counted: way 0 of alike ones", x.traces(), 3);
    C.due("nothing counted: z alone", x.trace(1, 0), 1);
    x.set(1, 1);
    x.run();
    C.due("z goes to w", x.traces(), 2);
    C.due("z goes to w", x.member(1, 1), 3);
    x.clear();
    C.due("nothing counted", x.traces(), 3);
    x = C.desk("block x; a=a+1; if a<2 goto y else y; block y; if a<9 goto x else z; block z; goto w; block w; goto v;"
        + "block v; stop;");
    C.due("four at most", x.trace(0, 0), 2);
    x.set(0, 10);
    x.run();
    C.due("four at most", x.trace(0, 0), 4);
    C.due("the fifth is its own", x.block(4, 6), 1);
    x = C.desk("block x; c=1/d; if a<1 goto t else z; block t; b=b+1; if b<3 goto y else z; block y; goto t; block z; stop;");
    for (int n = 0; n < 3; n++) {
      C.due("run", x.run(), 1);
    }
    x.set(3, 1);
    C.due("run", x.run(), 0);
    C.due("x was begun most", x.block(0, 6), 0);
    C.due("y comes to t oftener than x", x.trace(0, 0), 1);
    C.due("t, then y", x.member(1, 0) * 10 + x.member(1, 1), 12);
  }

  private static void trace() {
    TraceDesk x = C.desk(GUESS);
    int[] first = {2, 7, 8, 7, 7, 1, 2, 8, 1, 0, -1};
    int[] second = {1, 2, 1, 1, 1, 0, 0, 2, 0, 0, -1};
    for (int what = 0; what < first.length; what++) {
      C.due("trace(0, " + what + ")", x.trace(0, what), first[what]);
      C.due("trace(1, " + what + ")", x.trace(1, what), second[what]);
    }
    C.due("trace(2, 0)", x.trace(2, 0), -1);
    C.due("trace(-1, 0)", x.trace(-1, 0), -1);
    C.due("trace(0, -1)", x.trace(0, -1), -1);
    C.due("trace(MAX, MIN)", x.trace(MAX, MIN), -1);
    x = C.desk(COPIED);
    int[] copied = {2, 4, 2, 2, 2, 1, 0, 8, 0, 1};
    for (int what = 0; what < copied.length; what++) {
      C.due("trace(0, " + what + ") of copied", x.trace(0, what), copied[what]);
    }
    x = C.desk("units sums 2 1; block x; a=a+1; b=b+1; c=c+1; d=d+1; e=e+1; stop;");
    C.due("floor by units", x.trace(0, 3), 3);
    C.due("path", x.trace(0, 4), 1);
    C.due("length", x.trace(0, 2), 3);
  }

  private static void member() {
    TraceDesk x = midst();
    int[] due = {0, 1, 3, 4, -1};
    for (int i = 0; i < due.length; i++) {
      C.due("member(0, " + i + ")", x.member(0, i), due[i]);
    }
    C.due("member(1, 0)", x.member(1, 0), 2);
    C.due("member(1, 1)", x.member(1, 1), -1);
    C.due("member(2, 0)", x.member(2, 0), -1);
    C.due("member(0, -1)", x.member(0, -1), -1);
    C.due("member(-1, 0)", x.member(-1, 0), -1);
    C.due("member(MIN, MAX)", x.member(MIN, MAX), -1);
  }

  private static void item() {
    TraceDesk x = C.desk(GUESS);
    // sort, cycle, block, kind, height, sets, guess, copied, off
    int[][] due = {
      {0, 0, 0, 2, 6, 0, 0, 0, -2}, {2, 2, 0, 3, 1, -2, 0, 0, 2}, {0, 2, 1, 1, 4, 6, 1, 0, -2},
      {1, 6, 1, 0, 0, 1, 0, 0, -2}, {0, 5, 1, 0, 1, 7, 0, 0, -2}, {1, 7, 1, 0, 0, 2, 0, 0, -2},
      {3, 7, 1, 3, 0, -2, 0, 0, -2}};
    for (int i = 0; i < due.length; i++) {
      for (int what = 0; what < 9; what++) {
        C.due("item(0, " + i + ", " + what + ")", x.item(0, i, what), due[i][what]);
      }
    }
    C.due("item(0, 0, 9)", x.item(0, 0, 9), -1);
    C.due("item(0, 0, -1)", x.item(0, 0, -1), -1);
    C.due("item(0, 7, 0)", x.item(0, 7, 0), -1);
    C.due("item(0, -1, 0)", x.item(0, -1, 0), -1);
    C.due("item(2, 0, 0)", x.item(2, 0, 0), -1);
    C.due("item(-1, 0, 0)", x.item(-1, 0, 0), -1);
    C.due("item(0, MAX, 0)", x.item(0, MAX, 0), -1);
    x = midst();
    C.due("off by way 0", x.item(0, 3, 8), 3);
    C.due("a goto in the midst is no item", x.item(0, 1, 2) * 10 + x.item(0, 2, 2), 13);
    C.due("a guess in the split's own cycle", x.item(0, 1, 6), 1);
    C.due("none behind it", x.item(0, 2, 6), 0);
  }

  private static void renamedAtMostSix() {
    TraceDesk x = C.desk("units sums 4 1; block x; if f<1 goto y else z; block y; a=a+1; b=a+1; a=b+1; c=a+1; d=1+1; e=1+1;"
        + "goto w; block w; f=1+a; a=2+0; b=a+a; stop; block z; stop;");
    C.due("renamed", x.trace(0, 6), 6);
    C.due("items", x.trace(0, 1), 1 + 12 + 3 + 1);
    C.due("the sixth", x.item(0, 11, 5), 11);
    C.due("the seventh sets its register", x.item(0, 13, 5), 5);
    C.due("it waits for the split", x.needs(0, 0, 13), 1);
    C.due("it reads the last fresh one of a", x.needs(0, 5, 13), 1);
    C.due("not the first one", x.needs(0, 1, 13), -2);
    C.due("not the copy", x.needs(0, 6, 13), -2);
    C.due("a is set once more, not renamed", x.item(0, 14, 5), 0);
    C.due("what reads it reads it as it is", x.needs(0, 14, 15), 1);
    C.due("and no fresh one", x.needs(0, 5, 15), -2);
  }

  private static void needs() {
    TraceDesk x = C.desk(GUESS);
    int[][] due = {
      {0, 1, 2}, {0, 2, 2}, {0, 3, -2}, {0, 4, -2}, {0, 5, -2}, {0, 6, 0}, {1, 2, -2}, {1, 3, 1}, {1, 4, -2}, {1, 5, 1},
      {1, 6, 1}, {2, 3, 3}, {2, 4, 3}, {2, 5, -2}, {2, 6, 0}, {3, 4, -2}, {3, 5, -2}, {4, 5, 1}, {5, 6, 0}};
    for (int[] row : due) {
      C.due("needs(0, " + row[0] + ", " + row[1] + ")", x.needs(0, row[0], row[1]), row[2]);
    }
    C.due("needs(0, 2, 2)", x.needs(0, 2, 2), -1);
    C.due("needs(0, 3, 2)", x.needs(0, 3, 2), -1);
    C.due("needs(0, 2, 7)", x.needs(0, 2, 7), -1);
    C.due("needs(0, -1, 2)", x.needs(0, -1, 2), -1);
    C.due("needs(2, 0, 1)", x.needs(2, 0, 1), -1);
    C.due("needs(MIN, MIN, MAX)", x.needs(MIN, MIN, MAX), -1);
    x = C.desk("block x; a=b*c; b=d+1; a=e+f; c=b*a; a=c*2; if a<1 goto x else x;");
    C.due("read, then set", x.needs(0, 0, 1), 0);
    C.due("both set: the longer first", x.needs(0, 0, 2), 3);
    C.due("both set: the shorter first", x.needs(0, 2, 4), 1);
    C.due("both set: not next to one another", x.needs(0, 0, 4), 1);
    C.due("set, then read", x.needs(0, 1, 3), 1);
    C.due("of what is read only the last", x.needs(0, 0, 3), 0);
    C.due("the exit reads what its if looks at", x.needs(0, 4, 5), 3);
    C.due("the exit is behind all", x.needs(0, 1, 5), 0);
    x = C.desk("block x; b=a*2; a=c+1; if c<1 goto y else z; block y; a=1+1; a=1+0; f=1+0; stop; block z; f=1+0; stop;");
    x.rename(false);
    C.due("register a: read, then set", x.needs(0, 0, 1), 0);
    C.due("register a is wanted off the trace", x.needs(0, 2, 3), 1);
    C.due("register f is not", x.needs(0, 2, 5), -2);
  }

  private static void needsOfCells() {
    TraceDesk x = C.desk("units cells 2 4; block x; a=at 0; at 1=2; b=at 2; at 3=4; goto y; block y; if c<1 goto z else x;"
        + "block z; at 4=5; d=at 1; goto x;");
    C.due("load, store", x.needs(0, 0, 1), 0);
    C.due("load, load", x.needs(0, 0, 2), -2);
    C.due("store, load", x.needs(0, 1, 2), 4);
    C.due("store, store", x.needs(0, 1, 3), 1);
    C.due("split, store", x.needs(0, 4, 5), 1);
    C.due("split, load of what is not wanted there", x.needs(0, 4, 6), -2);
    C.due("store, load over the split", x.needs(0, 5, 6), 4);
    C.due("split, exit", x.needs(0, 4, 7), 1);
  }

  private static void copied() {
    TraceDesk x = C.desk(COPIED);
    C.due("copied at the split", x.item(0, 2, 7), 1);
    C.due("copied(0, 2, 0)", x.copied(0, 2, 0), 1);
    C.due("copied(0, 2, 1)", x.copied(0, 2, 1), -1);
    C.due("copied(0, 2, -1)", x.copied(0, 2, -1), -1);
    C.due("no split", x.copied(0, 1, 0), -1);
    C.due("the exit", x.copied(0, 3, 0), -1);
    C.due("no item", x.copied(0, 4, 0), -1);
    C.due("no trace", x.copied(3, 0, 0), -1);
    C.due("copied(MAX, MIN, MIN)", x.copied(MAX, MIN, MIN), -1);
    x = C.desk(COPIED.replace("if", "b=f*5; a=1+0; if"));
    C.due("two are copied", x.item(0, 4, 7), 2);
    C.due("copied(0, 4, 0)", x.copied(0, 4, 0), 1);
    C.due("copied(0, 4, 1)", x.copied(0, 4, 1), 2);
    C.due("copied(0, 4, 2)", x.copied(0, 4, 2), -1);
    C.due("copied(0, 4, -1)", x.copied(0, 4, -1), -1);
  }

  private static void busy() {
    TraceDesk x = C.desk(GUESS);
    int[][] due = {{0, 2, 1}, {0, 0, 0}, {2, 1, 1}, {2, 3, 1}, {5, 0, 1}, {6, 0, 1}, {7, 0, 1}, {7, 3, 1}, {4, 3, 0}};
    for (int[] row : due) {
      C.due("busy(0, " + row[0] + ", " + row[1] + ")", x.busy(0, row[0], row[1]), row[2]);
    }
    C.due("busy(0, 8, 0)", x.busy(0, 8, 0), -1);
    C.due("busy(0, -1, 0)", x.busy(0, -1, 0), -1);
    C.due("busy(0, 0, 4)", x.busy(0, 0, 4), -1);
    C.due("busy(0, 0, -1)", x.busy(0, 0, -1), -1);
    C.due("busy(2, 0, 0)", x.busy(2, 0, 0), -1);
    x = C.desk("units sums 4 1; block x; a=a+1; b=b+1; c=c-1; stop;");
    C.due("three in a cycle", x.busy(0, 0, 0), 3);
  }

  private static void slow() {
    TraceDesk x = C.desk(LOOP);
    C.due("slow(0)", x.slow(0), 0);
    C.due("slow(1)", x.slow(1), 14);
    C.due("slow(2)", x.slow(2), 6);
    C.due("slow(3)", x.slow(3), -1);
    C.due("slow(-1)", x.slow(-1), -1);
    C.due("nothing happens", x.reg(0) + x.count(3) + x.count(9), 0);
    x = C.desk("block x; a=1*2; b=1/c; stop;");
    C.due("what faults is not counted", x.slow(1), 3);
    C.due("begun", x.slow(2), 1);
    C.due("slow(0)", x.slow(0), 1);
  }

  private static void fast() {
    TraceDesk x = C.desk(GUESS);
    x.put(1, 9);
    int[] off = {0, 4, 2, 2, 1, -1};
    for (int what = 0; what < off.length; what++) {
      C.due("fast(" + what + ") off", x.fast(what), off[what]);
    }
    x.put(1, 2);
    int[] on = {0, 8, 2, 1, 0};
    for (int what = 0; what < on.length; what++) {
      C.due("fast(" + what + ") on", x.fast(what), on[what]);
    }
    C.due("fast(-1)", x.fast(-1), -1);
    C.due("nothing happens", x.reg(0) + x.count(3), 0);
    x = C.desk(COPIED);
    x.set(3, 6);
    x.set(5, 2);
    C.due("split's cycle and 1, what is copied, the block behind", x.fast(1), 1 + 3 + 1);
    C.due("e was copied", x.left(4), 6);
    C.due("went off", x.fast(4), 1);
    x = midst();
    x.set(0, 2);
    // off at the first split: 1 cycle, q: 1 cycle; m and t are not first of a trace: 2, 2, 1 cycles
    C.due("blocks alone are slow", x.fast(1), 1 + 1 + 2 + 2 + 1);
    C.due("begun", x.fast(2), 5);
    C.due("traces", x.fast(3), 2);
    C.due("off", x.fast(4), 1);
  }

  private static void fastTooLong() {
    TraceDesk x = C.desk("block x; a=a+1; goto y; block y; goto z; block z; goto x;");
    C.due("too long", x.fast(0), 2);
    C.due("66 traces of three blocks, two blocks alone", x.fast(2), 200);
    C.due("traces", x.fast(3), 66);
    C.due("cycles", x.fast(1), 66 + 2 + 1);
    C.due("nothing is left", x.left(0), 0);
    C.due("agrees", x.agrees(), 1);
    x = C.desk("block x; a=a+1; goto y; block y; if a<100 goto x else z; block z; stop;");
    C.due("a 201st block", x.fast(0), 2);
    x.set(0, 1);
    C.due("199 blocks", x.fast(0), 0);
    C.due("199 blocks", x.fast(2), 199);
    C.due("a", x.left(0), 100);
    x = C.desk("block x; a=a+1; goto y; block y; if a<100 goto x else z; block z; goto z;");
    x.run();
    C.due("a trace of two", x.trace(0, 0), 2);
    C.due("just 200 blocks", x.fast(2), 200);
    C.due("all of them in traces", x.fast(3), 100);
  }

  private static void fastFaults() {
    TraceDesk x = C.desk(GUESS);
    int[] due = {1, 0, 1, 1, 0};
    for (int what = 0; what < due.length; what++) {
      C.due("a guess that counts, fast(" + what + ")", x.fast(what), due[what]);
    }
    C.due("left(0)", x.left(0), 0);
    x = C.desk(COPIED.replace("e=f*3", "e=f/b"));
    x.set(3, 9);
    int[] copied = {1, 0, 1, 1, 1};
    for (int what = 0; what < copied.length; what++) {
      C.due("a fault in what is copied, fast(" + what + ")", x.fast(what), copied[what]);
    }
    x.set(3, 1);
    C.due("a fault on the trace, not off", x.fast(4), 0);
    C.due("a fault on the trace", x.fast(0), 1);
    x = C.desk("block x; a=1+0; if b<1 goto x else y; block y; c=5*1; d=1/e; stop;");
    x.set(1, 2);
    C.due("y alone would be fast", x.fast(3), 2);
    C.due("of what faults nothing is counted", x.fast(1), 1);
    C.due("begun", x.fast(2), 2);
    x = midst();
    C.due("m stays in the midst", x.block(3, 7), 2);
  }

  private static void agrees() {
    TraceDesk x = C.desk(GUESS);
    for (int cell = 0; cell < 8; cell++) {
      x.put(1, cell);
      x.set(1, cell * 3);
      C.due("agrees() with " + cell, x.agrees(), 1);
      C.due("alike", x.fast(0), x.slow(0));
      if (x.slow(0) == 0) {
        x.hold(0);
        int b = x.left(1);
        int d = x.left(3);
        x.run();
        C.due("b", x.reg(1), b);
        C.due("d", x.reg(3), d);
        x.restore(0);
      }
    }
  }

  private static void left() {
    TraceDesk x = C.desk("block x; a=1+0; b=2+0; c=3+0; f=6+0; at 0=7; at 7=8; stop;");
    int[] due = {1, 2, 3, 0, 0, 6, 0, 0, 7, 0, 0, 0, 0, 0, 0, 8, 0};
    for (int which = 0; which < due.length; which++) {
      C.due("left(" + which + ")", x.left(which), due[which]);
    }
    C.due("left(-1)", x.left(-1), 0);
    C.due("left(MIN)", x.left(MIN), 0);
    C.due("left(MAX)", x.left(MAX), 0);
    C.due("nothing happens", x.reg(0) + x.cell(0), 0);
    x = C.desk("block x; a=1+0; at 9=1; stop;");
    C.due("it does not stop", x.left(0), 0);
  }

  private static void growth() {
    TraceDesk x = midst();
    C.due("size", x.growth(0), 8);
    C.due("grown", x.growth(1), 5 + 2 + 0 + 3);
    C.due("splits", x.growth(2), 2);
    C.due("joined", x.growth(3), 8 + 16);
    C.due("growth(4)", x.growth(4), -1);
    C.due("growth(-1)", x.growth(-1), -1);
    x = C.desk(COPIED);
    C.due("grown by what is copied", x.growth(1), 4 + 1 + 1);
    C.due("none joined", x.growth(3), 0);
    x = C.desk("block x; if a<1 goto y else z; block y; goto z; block z; a=a+1; if a<3 goto y else w; block w; stop;");
    x.run();
    // begun: x 1, y 3, z 3, w 1: the trace y, z; ahead of y stands, of the ways to it, z's, which is in it already
    C.due("a trace around the loop", x.member(0, 0) * 10 + x.member(0, 1), 12);
    C.due("no more of it", x.trace(0, 0), 2);
    C.due("x leads to z too", x.growth(3), 4);
    x = C.desk("block x; b=b+1; if b<4 goto y else z; block y; c=c+1; if c<3 goto y else x; block z; stop;");
    x.run();
    // y begun 5 times, x 4: the trace y, x
    C.due("block 0 behind another", x.member(0, 0) * 10 + x.member(0, 1), 10);
    C.due("block 0 is joined there", x.growth(3), 1);
  }

  private static void saved() {
    TraceDesk x = C.desk(GUESS);
    C.due("nothing was begun", x.saved(0), 0);
    x.put(1, 2);
    x.run();
    x.run();
    C.due("two sums in a cycle", x.saved(0), 2);
    C.due("hard", x.saved(1), 0);
    C.due("cells", x.saved(2), 0);
    C.due("jumps", x.saved(3), 0);
    C.due("saved(4)", x.saved(4), -1);
    C.due("saved(-1)", x.saved(-1), -1);
    C.due("the length stays", x.trace(0, 2), 8);
    x = C.desk("units sums 4 1; block x; a=1+0; b=1+0; c=1+0; d=1+0; e=1+0; stop;");
    x.run();
    C.due("4 at most", x.saved(0), 0);
    x.units(0, 3, 1);
    C.due("three to four: two cycles still", x.saved(0), 0);
    x.units(0, 2, 1);
    C.due("two to three", x.saved(0), 1);
    String longer = "units sums 1 4;units hard 2 1;units cells 1 1;units jumps 1 5;block x;c=at 1;a=at 1;c=a+f;a=at 1;"
        + "at 1=d;b=f*3;goto y;block y;e=b+e;f=e-2;b=c*c;at 1=3;e=c+a;d=d+1;stop;";
    x = C.desk(longer);
    x.run();
    x.run();
    C.due("a list may grow longer by a unit more", x.saved(2), -2);
    C.due("length", x.trace(0, 2), 7);
    x.units(2, 2, 1);
    C.due("it does", x.trace(0, 2), 8);
  }

  private static void hold() {
    TraceDesk x = C.desk(LOOP);
    C.due("hold(-1)", x.hold(-1), false);
    C.due("hold(3)", x.hold(3), false);
    C.due("hold(MIN)", x.hold(MIN), false);
    C.due("none holds", x.count(11), 0);
    C.due("hold(0)", x.hold(0), true);
    C.due("hold(2)", x.hold(2), true);
    C.due("hold(2) again", x.hold(2), true);
    C.due("two hold", x.count(11), 2);
    C.due("it is nothing to be undone", x.count(9), 0);
  }

  private static void restore() {
    TraceDesk x = C.desk(LOOP);
    C.due("restore(0)", x.restore(0), false);
    x.set(3, 4);
    x.put(3, 5);
    x.run();
    x.rename(false);
    x.units(0, 3, 3);
    x.hold(1);
    x.set(3, 7);
    x.put(3, 7);
    x.clear();
    x.rename(true);
    x.units(0, 1, 1);
    x.feed(0x20202020, 0x20202020, 0x20202020, 0x20202020, 0x20202020);
    C.due("restore(-1)", x.restore(-1), false);
    C.due("restore(3)", x.restore(3), false);
    C.due("restore(2)", x.restore(2), false);
    C.due("nothing happened", x.count(9), 10);
    for (int n = 0; n < 2; n++) {
      C.due("restore(1)", x.restore(1), true);
      C.due("register", x.reg(3), 4);
      C.due("cell", x.cell(3), 5);
      C.due("counts", x.count(3), 6);
      C.due("gone", x.gone(0, 0), 4);
      C.due("renaming", x.count(2), 0);
      C.due("units", x.kind(0, 0) * 10 + x.kind(0, 1), 33);
      C.due("nothing can be undone", x.undo(), false);
      C.due("the tape stays", x.count(8), 20);
      C.due("it stays held", x.count(11), 1);
      x.set(3, 9);
    }
  }

  private static void count() {
    TraceDesk x = C.desk(GUESS);
    x.put(1, 2);
    x.run();
    x.hold(1);
    x.feed(1, 2, 3, 4, 5);
    // blocks, lines, renaming, begun, lengths, floors, plains, guesses, tape, undone, renamed, slots
    int[] due = {3, 4, 1, 2, 9, 8, 10, 1, 20, 2, 2, 1, -1};
    for (int what = 0; what < due.length; what++) {
      C.due("count(" + what + ")", x.count(what), due[what]);
    }
    C.due("count(-1)", x.count(-1), -1);
    C.due("count(MAX)", x.count(MAX), -1);
    C.due("count(MIN)", x.count(MIN), -1);
    x.rename(false);
    C.due("count(2)", x.count(2), 0);
    C.due("count(10)", x.count(10), 0);
    C.due("count(4)", x.count(4), 8);
  }

  /** Four blocks of six lines with three splits: 34 items, as many as can be; eight blocks in all. */
  private static void fullest() {
    StringBuilder text = new StringBuilder("units sums 1 6; units hard 1 6; units cells 1 6; units jumps 1 6;");
    String names = "xyzwvuts";
    for (int b = 0; b < 8; b++) {
      text.append("block ").append(names.charAt(b)).append(';').append("a=a*b;b=b+1;c=at 1;at 1=a;d=d/b;e=c-d;");
      text.append(b < 7 ? "if f<1 goto " + names.charAt(b + 1) + " else s;" : "stop;");
    }
    TraceDesk x = C.desk(text.toString());
    C.due("lines", x.count(1), 48);
    C.due("traces", x.traces(), 2);
    C.due("items", x.trace(0, 1), 34);
    C.due("renamed", x.trace(0, 6), 6);
    C.due("splits", x.trace(0, 5), 3);
    C.due("the exit", x.item(0, 33, 0), 3);
    C.due("no more", x.item(0, 34, 0), -1);
    C.due("the exit is last", x.item(0, 33, 1), x.trace(0, 2) - 1);
    C.due("the last line of all", x.needs(0, 32, 33), 0);
    C.due("no such item", x.needs(0, 33, 34), -1);
    C.due("plain", x.trace(0, 7), 28 * 6);
    for (int f = 0; f < 2; f++) {
      x.set(5, f);
      C.due("run", x.slow(0), 0);
      C.due("agrees", x.agrees(), 1);
      C.due("off", x.fast(4), f);
      C.due("fast(0)", x.fast(0), 0);
      x.run();
    }
    C.due("eight traces", C.desk(blocks(8)).traces(), 8);
  }
}
