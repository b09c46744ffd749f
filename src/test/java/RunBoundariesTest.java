/** Runs, what is done by hand, what is undone and held: each sentence that names a boundary, by a test of its own. */
public final class RunBoundariesTest {
  private static final Checks C = new Checks();
  private static final int MIN = Integer.MIN_VALUE;
  private static final int MAX = Integer.MAX_VALUE;
  /** Counts to 5, then doubles: six blocks. */
  private static final String LOOP = "block top; a=a+1; if a<5 goto top else out; block out; b=a*2; stop;";

  private RunBoundariesTest() { }

  public static void main(String[] args) {
    namesOfRegisters();
    numbersThatWrap();
    roundedTowardsZero();
    dividedByNone();
    cellsThatAreNone();
    lessThan();
    waysOfEnds();
    stops();
    noBlocks();
    tooLong();
    lastBlockOfAll();
    slowCycles();
    countsOfFaults();
    countsOfTooLong();
    countsOfAllWays();
    asTheRunLeavesThem();
    elseAsTheyWere();
    mostCounted();
    reg();
    cell();
    kind();
    blocksAskedFor();
    gone();
    set();
    put();
    run();
    clear();
    clearOfNothing();
    rename();
    units();
    undo();
    undoOfEach();
    lastForty();
    slow();
    hold();
    holdsAll();
    restore();
    restoreOfNothing();
    restoreUndoesNothing();
    count();
    callsOfAnObject();
    C.end("RunBoundariesTest");
  }

  private static String registers(TraceDesk x) {
    StringBuilder row = new StringBuilder();
    for (int r = 0; r < 6; r++) {
      row.append(r == 0 ? "" : " ").append(x.reg(r));
    }
    return row.toString();
  }

  private static String cells(TraceDesk x) {
    StringBuilder row = new StringBuilder();
    for (int c = 0; c < 8; c++) {
      row.append(c == 0 ? "" : " ").append(x.cell(c));
    }
    return row.toString();
  }

  private static void namesOfRegisters() {
    C.says("REGISTERS 0 .. 5 (a .. f), CELLS 0 .. 7: ints of 32 bits that wrap.");
    TraceDesk x = C.desk("block x; a=10+0; b=11+0; c=12+0; d=13+0; e=14+0; f=15+0; goto y;"
        + "block y; at 0=1; at 1=2; at 2=3; at 3=4; at 4=5; at 5=6; goto z; block z; at 6=7; at 7=8; stop;");
    C.due("run()", x.run(), 0);
    C.due("registers", registers(x), "10 11 12 13 14 15");
    C.due("cells", cells(x), "1 2 3 4 5 6 7 8");
  }

  private static void numbersThatWrap() {
    C.says("ints of 32 bits that wrap");
    TraceDesk x = C.desk("block x; c=a+b; d=a-b; e=a*b; at 0=c; stop;");
    int[][] rows = {{MAX, 1, MIN, MAX - 1, MAX}, {MIN, 1, MIN + 1, MAX, MIN}, {MIN, -1, MAX, MIN + 1, MIN},
      {MAX, MAX, -2, 0, 1}, {MIN, MIN, 0, 0, 0}, {65536, 65536, 131072, 0, 0}, {MAX, 2, MIN + 1, MAX - 2, -2}};
    for (int[] row : rows) {
      x.set(0, row[0]);
      x.set(1, row[1]);
      C.due("left(2)", x.left(2), row[2]);
      C.due("run()", x.run(), 0);
      C.due(row[0] + "+" + row[1], x.reg(2), row[2]);
      C.due(row[0] + "-" + row[1], x.reg(3), row[3]);
      C.due(row[0] + "*" + row[1], x.reg(4), row[4]);
      C.due("a cell", x.cell(0), row[2]);
    }
  }

  private static void roundedTowardsZero() {
    C.says("(/ rounded towards 0)");
    TraceDesk x = C.desk("block x; c=a/b; stop;");
    int[][] rows = {{7, 2, 3}, {-7, 2, -3}, {7, -2, -3}, {-7, -2, 3}, {1, 2, 0}, {-1, 2, 0}, {MIN, -1, MIN}, {MIN, 1, MIN},
      {MAX, -1, -MAX}, {MIN, MAX, -1}, {MIN, MIN, 1}, {MAX, MIN, 0}, {0, -5, 0}};
    for (int[] row : rows) {
      x.set(0, row[0]);
      x.set(1, row[1]);
      C.due("fast: " + row[0] + "/" + row[1], x.left(2), row[2]);
      C.due("run()", x.run(), 0);
      C.due(row[0] + "/" + row[1], x.reg(2), row[2]);
    }
  }

  private static void dividedByNone() {
    C.says("/ by 0, a CELL that is not 0 .. 7: the run FAULTS.");
    for (String line : new String[] {"a=1/0;", "a=0/0;", "a=a/b;", "a=7/b;", "b=b/b;"}) {
      TraceDesk x = C.desk("block x;" + line + "stop;");
      C.due("slow(0) of " + line, x.slow(0), 1);
      C.due("fast(0) of " + line, x.fast(0), 1);
      C.due("run() of " + line, x.run(), 1);
      x.set(1, -1);
      C.due("slow(0) of " + line, x.slow(0), line.endsWith("/0;") ? 1 : 0);
    }
    C.due("0*0 does not fault", C.desk("block x; a=0*0; b=0-0; c=0+0; d=0/1; stop;").run(), 0);
  }

  private static void cellsThatAreNone() {
    C.says("a CELL that is not 0 .. 7: the run FAULTS");
    for (String line : new String[] {"b=at a;", "at a=1;"}) {
      TraceDesk x = C.desk("block x;" + line + "stop;");
      for (int cell : new int[] {MIN, -8, -2, -1, 0, 1, 6, 7, 8, 9, 15, 16, 9999, MAX}) {
        x.set(0, cell);
        int due = cell >= 0 && cell <= 7 ? 0 : 1;
        C.due("slow(0) of " + line + cell, x.slow(0), due);
        C.due("fast(0) of " + line + cell, x.fast(0), due);
      }
    }
    C.due("at 7", C.desk("block x; a=at 7; at 7=1; stop;").run(), 0);
    C.due("load at 8", C.desk("block x; a=at 8; stop;").run(), 1);
    C.due("store at 8", C.desk("block x; at 8=1; stop;").run(), 1);
    C.due("store at 9999", C.desk("block x; at 9999=1; stop;").run(), 1);
  }

  private static void lessThan() {
    C.says("'if': to the first if REG is less than the VALUE, else to the other one");
    TraceDesk x = C.desk("block x; if a<b goto y else z; block y; c=1+0; stop; block z; c=2+0; stop;");
    int[][] rows = {{0, 1, 1}, {1, 1, 2}, {2, 1, 2}, {-1, 0, 1}, {0, -1, 2}, {MIN, MAX, 1}, {MAX, MIN, 2}, {MIN, MIN, 2},
      {MAX - 1, MAX, 1}, {-1, 1, 1}};
    for (int[] row : rows) {
      x.set(0, row[0]);
      x.set(1, row[1]);
      C.due("fast: " + row[0] + "<" + row[1], x.left(2), row[2]);
      x.run();
      C.due(row[0] + "<" + row[1], x.reg(2), row[2]);
    }
    x = C.desk("block x; if a<5 goto y else z; block y; c=1+0; stop; block z; c=2+0; stop;");
    x.set(0, 4);
    C.due("4<5", x.left(2), 1);
    x.set(0, 5);
    C.due("5<5", x.left(2), 2);
    x = C.desk("block x; if a<a goto y else z; block y; c=1+0; stop; block z; c=2+0; stop;");
    C.due("a<a", x.left(2), 2);
  }

  private static void waysOfEnds() {
    C.says("(WAYS 0 and 1; 'goto': WAY 0)");
    TraceDesk x = C.desk("block x; goto y; block y; if a<1 goto z else z; block z; stop;");
    x.run();
    x.set(0, 1);
    x.run();
    x.run();
    int[][] gone = {{3, -1}, {1, 2}, {-1, -1}};
    int[][] leads = {{1, -2}, {2, 2}, {-2, -2}};
    for (int b = 0; b < 3; b++) {
      for (int way = 0; way < 2; way++) {
        C.due("gone(" + b + ", " + way + ")", x.gone(b, way), gone[b][way]);
        C.due("way " + way + " of " + b, x.block(b, 3 + way), leads[b][way]);
      }
    }
  }

  private static void stops() {
    C.says("'stop': the run STOPS");
    TraceDesk x = C.desk("block x; stop; block y; a=1/0; goto y;");
    C.due("run()", x.run(), 0);
    C.due("blocks", x.slow(2), 1);
    C.due("the block behind is not begun", x.block(1, 2), 0);
    x = C.desk("block x; goto z; block y; stop; block z; a=1+0; goto y;");
    C.due("run()", x.run(), 0);
    C.due("a", x.reg(0), 1);
    C.due("blocks", x.slow(2), 3);
  }

  private static void noBlocks() {
    C.says("(no BLOCKS: it STOPS at once)");
    TraceDesk x = C.desk("units jumps 2 2;");
    x.set(5, 9);
    x.put(7, 8);
    for (int what = 0; what < 3; what++) {
      C.due("slow(" + what + ")", x.slow(what), 0);
    }
    for (int what = 0; what < 5; what++) {
      C.due("fast(" + what + ")", x.fast(what), 0);
    }
    C.due("agrees()", x.agrees(), 1);
    C.due("left(5)", x.left(5), 9);
    C.due("left(15)", x.left(15), 8);
    C.due("run()", x.run(), 0);
    C.due("nothing is begun", x.count(3), 0);
    C.due("clear()", x.clear(), -1);
    C.due("a run can be undone", x.count(9), 3);
  }

  private static void tooLong() {
    C.says("it is TOO LONG when a 201st BLOCK would begin");
    TraceDesk x = C.desk("block x; a=a+1; if a<200 goto x else y; block y; stop;");
    C.due("a 201st would begin", x.slow(0), 2);
    C.due("200 were begun", x.slow(2), 200);
    C.due("fast", x.fast(0), 2);
    C.due("fast", x.fast(2), 200);
    C.due("run()", x.run(), 2);
    x.set(0, 1);
    C.due("the 200th stops", x.slow(0), 0);
    C.due("200 were begun", x.slow(2), 200);
    C.due("fast", x.fast(0), 0);
    C.due("fast", x.fast(2), 200);
    C.due("run()", x.run(), 0);
    C.due("it went on to the stop", x.reg(0), 200);
    x = C.desk("block x; goto y; block y; goto x;");
    C.due("two in a ring", x.slow(0), 2);
    C.due("two in a ring", x.slow(2), 200);
    C.due("two in a ring, fast", x.fast(2), 200);
  }

  private static void lastBlockOfAll() {
    C.says("How it comes out: 0 STOPS, 1 FAULTS, 2 TOO LONG.");
    TraceDesk x = C.desk("block x; a=a+1; if a<199 goto x else y; block y; b=1/c; goto x;");
    C.due("the 200th faults", x.slow(0), 1);
    C.due("fast", x.fast(0), 1);
    C.due("200 were begun", x.slow(2), 200);
    C.due("fast", x.fast(2), 200);
    x.set(2, 1);
    C.due("the 200th does not", x.slow(0), 2);
    C.due("fast", x.fast(0), 2);
    C.due("run()", x.run(), 2);
    x.set(2, 0);
    x.set(0, -1);
    C.due("what would fault would be the 201st", x.slow(0), 2);
    C.due("fast", x.fast(0), 2);
    C.due("agrees()", x.agrees(), 1);
  }

  private static void slowCycles() {
    C.says("SLOW cycles: LATENCY of each LINE and END done, added (what FAULTS is not counted).");
    TraceDesk x = C.desk("units sums 1 2; units hard 1 5; units cells 1 6; units jumps 1 4;"
        + "block x; a=1+1; a=1-1; b=1*1; b=1/1; c=at 1; at 1=1; goto y; block y; d=1/e; d=1*1; stop;");
    C.due("up to what faults", x.slow(1), 2 + 2 + 5 + 5 + 6 + 6 + 4);
    x.set(4, 1);
    C.due("all", x.slow(1), 30 + 5 + 5 + 4);
    x = C.desk("block x; c=1+1; a=at b; stop;");
    x.set(1, 8);
    C.due("a load that faults", x.slow(1), 1);
    x = C.desk("block x; at 8=1; stop;");
    C.due("nothing but what faults", x.slow(1), 0);
    x = C.desk("units jumps 1 3; block x; goto x;");
    C.due("of what is too long", x.slow(1), 600);
    x.units(3, 4, 2);
    C.due("units save nothing, latency does", x.slow(1), 400);
  }

  private static void countsOfFaults() {
    C.says("a BLOCK in which it FAULTS was begun");
    TraceDesk x = C.desk("block x; if a<1 goto y else z; block y; b=1/c; if a<1 goto x else z; block z; stop;");
    C.due("run()", x.run(), 1);
    C.due("begun", x.block(0, 2), 1);
    C.due("begun", x.block(1, 2), 1);
    C.due("not begun", x.block(2, 2), 0);
    C.due("the way to it was gone", x.gone(0, 0), 1);
    C.due("no way from it was", x.gone(1, 0) + x.gone(1, 1), 0);
    C.due("count(3)", x.count(3), 2);
    C.due("slow(2)", x.slow(2), 2);
    x = C.desk("block x; a=at 8; stop;");
    x.run();
    x.run();
    C.due("the first block too, again and again", x.block(0, 2), 2);
  }

  private static void countsOfTooLong() {
    C.says("(of one that FAULTS, that is TOO LONG, too; a BLOCK in which it FAULTS was begun)");
    TraceDesk x = C.desk("block x; a=a+1; if a<200 goto x else y; block y; stop;");
    C.due("run()", x.run(), 2);
    C.due("begun", x.block(0, 2), 200);
    C.due("way 0", x.gone(0, 0), 199);
    C.due("the way to what would begin was gone", x.gone(0, 1), 1);
    C.due("it was not begun", x.block(1, 2), 0);
    x.run();
    C.due("counts are added", x.count(3), 400);
  }

  private static void countsOfAllWays() {
    C.says("COUNTS: how often each BLOCK was begun, each WAY of each END gone");
    StringBuilder text = new StringBuilder();
    for (int b = 0; b < 8; b++) {
      text.append("block x").append("stuvwxyz".charAt(b)).append("; a=a+1; if a<101 goto x")
          .append("stuvwxyz".charAt((b + 1) % 8)).append(" else x").append("stuvwxyz".charAt((b + 1) % 8)).append(';');
    }
    TraceDesk x = C.desk(text.toString());
    C.due("run()", x.run(), 2);
    // 200 blocks, 25 times around; way 0 by the first 100 of them
    for (int b = 0; b < 8; b++) {
      C.due("begun " + b, x.block(b, 2), 25);
      C.due("gone " + b + ", 0", x.gone(b, 0), b < 4 ? 13 : 12);
      C.due("gone " + b + ", 1", x.gone(b, 1), b < 4 ? 12 : 13);
    }
    C.due("clear()", x.clear(), 200);
    for (int b = 0; b < 8; b++) {
      C.due("cleared " + b, x.block(b, 2) + x.gone(b, 0) + x.gone(b, 1), 0);
    }
  }

  private static void asTheRunLeavesThem() {
    C.says("REGISTERS and CELLS are as it leaves them if it STOPS");
    TraceDesk x = C.desk("block x; f=a+1; at 0=9; at 7=f; goto y; block y; a=0-3; stop;");
    x.set(1, 5);
    x.put(3, 6);
    C.due("run()", x.run(), 0);
    C.due("registers", registers(x), "-3 5 0 0 0 1");
    C.due("cells", cells(x), "9 0 0 6 0 0 0 1");
    C.due("run()", x.run(), 0);
    C.due("it began from there", registers(x), "-3 5 0 0 0 -2");
    C.due("cell 7", x.cell(7), -2);
  }

  private static void elseAsTheyWere() {
    C.says("else as they were; its COUNTS are added");
    TraceDesk x = C.desk("block x; a=a+1; f=7+0; at 0=a; at 7=a; if b<1 goto x else y; block y; c=1/d; stop;");
    x.put(3, 6);
    x.set(4, 2);
    C.due("too long", x.run(), 2);
    C.due("registers", registers(x), "0 0 0 0 2 0");
    C.due("cells", cells(x), "0 0 0 6 0 0 0 0");
    C.due("counts", x.count(3), 200);
    x.set(1, 1);
    C.due("faults", x.run(), 1);
    C.due("registers", registers(x), "0 1 0 0 2 0");
    C.due("cells", cells(x), "0 0 0 6 0 0 0 0");
    C.due("counts", x.count(3), 202);
  }

  /** 512 calls can't come so far, but what is built for it must hold all the same. */
  private static void mostCounted() {
    C.says("(to 1,000,000 at most each)");
    TraceDesk x = C.desk("block x; if a<1 goto x else y; block y; stop;");
    for (int n = 0; n < 4999; n++) {
      x.run();
    }
    C.due("begun", x.block(0, 2), 999800);
    C.due("gone", x.gone(0, 0), 999800);
    x.run();
    C.due("begun", x.block(0, 2), 1000000);
    C.due("gone", x.gone(0, 0), 1000000);
    x.undo();
    x.set(0, 1);
    x.run();
    C.due("each for itself", x.block(0, 2), 999801);
    C.due("each for itself", x.gone(0, 0), 999800);
    x.set(0, 0);
    x.run();
    x.run();
    C.due("no more", x.block(0, 2), 1000000);
    C.due("no more", x.gone(0, 0), 1000000);
    C.due("the others", x.gone(0, 1) * 10 + x.block(1, 2), 11);
    C.due("added", x.count(3), 1000001);
    C.due("clear()", x.clear(), 1000001);
  }

  private static void reg() {
    C.says("A REGISTER (0 for no such one).");
    TraceDesk x = new TraceDesk();
    for (int r = 0; r < 6; r++) {
      x.set(r, 100 + r);
    }
    C.due("registers", registers(x), "100 101 102 103 104 105");
    for (int r : new int[] {-1, 6, 7, 8, 13, MIN, MAX}) {
      C.due("reg(" + r + ")", x.reg(r), 0);
    }
  }

  private static void cell() {
    C.says("A CELL (0 for no such one).");
    TraceDesk x = new TraceDesk();
    for (int c = 0; c < 8; c++) {
      x.put(c, 100 + c);
    }
    for (int r = 0; r < 6; r++) {
      x.set(r, -5);
    }
    C.due("cells", cells(x), "100 101 102 103 104 105 106 107");
    x.run();
    for (int c : new int[] {-1, -6, 8, 9, 15, MIN, MAX}) {
      C.due("cell(" + c + ")", x.cell(c), 0);
    }
  }

  private static void kind() {
    C.says("Of a KIND (0 sums, 1 hard, 2 cells, 3 jumps): what 0 UNITS, 1 LATENCY. NONE for others.");
    TraceDesk x = C.desk("units sums 1 6; units hard 2 5; units cells 3 4; units jumps 4 3;");
    int[] due = {16, 25, 34, 43};
    for (int k = 0; k < 4; k++) {
      C.due("kind " + k, x.kind(k, 0) * 10 + x.kind(k, 1), due[k]);
      for (int what : new int[] {-1, 2, 3, MIN, MAX}) {
        C.due("kind(" + k + ", " + what + ")", x.kind(k, what), -1);
      }
    }
    for (int k : new int[] {-1, 4, 5, MIN, MAX}) {
      C.due("kind(" + k + ", 0)", x.kind(k, 0), -1);
      C.due("kind(" + k + ", 1)", x.kind(k, 1), -1);
    }
  }

  private static void blocksAskedFor() {
    C.says("3, 4 whereto WAY 0, WAY 1 lead (-2: there is none)");
    TraceDesk x = C.desk(LOOP + "block on; goto on;");
    int[][] leads = {{0, 1}, {-2, -2}, {2, -2}};
    for (int b = 0; b < 3; b++) {
      C.due("block(" + b + ", 3)", x.block(b, 3), leads[b][0]);
      C.due("block(" + b + ", 4)", x.block(b, 4), leads[b][1]);
    }
    C.says("7 its place in that, 8: 1 JOINED, else 0. NONE for others.");
    for (int what = 0; what < 9; what++) {
      C.due("block(2, " + what + ") is told", x.block(2, what) != -1, true);
      for (int b : new int[] {-1, 3, 7, 8, MIN, MAX}) {
        C.due("block(" + b + ", " + what + ")", x.block(b, what), -1);
      }
    }
    for (int what : new int[] {-1, 9, 10, MIN, MAX}) {
      C.due("block(0, " + what + ")", x.block(0, what), -1);
    }
  }

  private static void gone() {
    C.says("How often a WAY of a BLOCK's END was gone; NONE: no such one.");
    TraceDesk x = C.desk(LOOP + "block on; goto on;");
    x.run();
    int[][] due = {{4, 1}, {-1, -1}, {0, -1}};
    for (int b = 0; b < 3; b++) {
      C.due("gone(" + b + ", 0)", x.gone(b, 0), due[b][0]);
      C.due("gone(" + b + ", 1)", x.gone(b, 1), due[b][1]);
      for (int way : new int[] {-1, 2, 3, MIN, MAX}) {
        C.due("gone(" + b + ", " + way + ")", x.gone(b, way), -1);
      }
    }
    for (int b : new int[] {-1, 3, 8, MIN, MAX}) {
      C.due("gone(" + b + ", 0)", x.gone(b, 0), -1);
      C.due("gone(" + b + ", 1)", x.gone(b, 1), -1);
    }
  }

  private static void set() {
    C.says("A REGISTER is set: true; false, and nothing happens: it is so, no such one.");
    TraceDesk x = new TraceDesk();
    for (int r = 0; r < 6; r++) {
      C.due("set(" + r + ", 0): it is so", x.set(r, 0), false);
      C.due("set(" + r + ", MIN)", x.set(r, MIN), true);
      C.due("set(" + r + ", MIN): it is so", x.set(r, MIN), false);
      C.due("set(" + r + ", " + r + ")", x.set(r, r + 1), true);
    }
    for (int r : new int[] {-1, 6, 8, MIN, MAX}) {
      C.due("set(" + r + ", 9)", x.set(r, 9), false);
    }
    C.due("registers", registers(x), "1 2 3 4 5 6");
    C.due("cells", cells(x), "0 0 0 0 0 0 0 0");
    C.due("done", x.count(9), 12);
  }

  private static void put() {
    C.says("A CELL is set: likewise.");
    TraceDesk x = new TraceDesk();
    for (int c = 0; c < 8; c++) {
      C.due("put(" + c + ", 0): it is so", x.put(c, 0), false);
      C.due("put(" + c + ", MAX)", x.put(c, MAX), true);
      C.due("put(" + c + ", MAX): it is so", x.put(c, MAX), false);
      C.due("put(" + c + ", " + c + ")", x.put(c, c + 1), true);
    }
    for (int c : new int[] {-1, 8, 9, 16, MIN, MAX}) {
      C.due("put(" + c + ", 9)", x.put(c, 9), false);
    }
    C.due("cells", cells(x), "1 2 3 4 5 6 7 8");
    C.due("registers", registers(x), "0 0 0 0 0 0");
    C.due("done", x.count(9), 16);
  }

  private static void run() {
    C.says("A RUN: how it comes out.");
    TraceDesk x = C.desk("block x; if a<1 goto y else z; block y; stop; block z; if a<2 goto z else v; block v; b=at a; stop;");
    C.due("run()", x.run(), 0);
    x.set(0, 1);
    C.due("run()", x.run(), 2);
    x.set(0, 8);
    C.due("run()", x.run(), 1);
    C.due("each can be undone", x.count(9), 5);
  }

  private static void clear() {
    C.says("COUNTS are cleared: how often BLOCKS were begun, added");
    TraceDesk x = C.desk(LOOP);
    x.run();
    x.run();
    C.due("clear()", x.clear(), 8);
    for (int b = 0; b < 2; b++) {
      C.due("begun", x.block(b, 2), 0);
      C.due("gone", Math.max(0, x.gone(b, 0)) + Math.max(0, x.gone(b, 1)), 0);
    }
    C.due("registers stay", registers(x), "6 12 0 0 0 0");
    x.undo();
    x.put(7, 5);
    x.rename(false);
    for (int k = 0; k < 4; k++) {
      x.units(k, 4, 6);
    }
    x.clear();
    C.due("cells stay", cells(x), "0 0 0 0 0 0 0 5");
    C.due("renaming stays", x.count(2), 0);
    for (int k = 0; k < 4; k++) {
      C.due("units stay", x.kind(k, 0) * 10 + x.kind(k, 1), 46);
    }
    x = C.desk("block g; goto h; block h; goto i; block i; goto j; block j; goto k; block k; goto l; block l; goto m;"
        + "block m; goto n; block n; stop;");
    x.run();
    C.due("clear() of eight blocks", x.clear(), 8);
    C.due("the last way", x.gone(6, 0), 0);
    C.due("the last block", x.block(7, 2), 0);
  }

  private static void clearOfNothing() {
    C.says("NONE, and nothing happens: nothing was counted.");
    TraceDesk x = C.desk(LOOP);
    x.set(0, 5);
    C.due("clear()", x.clear(), -1);
    C.due("done", x.count(9), 1);
    x.run();
    x.clear();
    C.due("clear() again", x.clear(), -1);
    C.due("done", x.count(9), 3);
    x.undo();
    C.due("clear() once it is undone", x.clear(), 2);
  }

  private static void rename() {
    C.says("Renaming is switched: true; false, and nothing happens: it is so.");
    TraceDesk x = new TraceDesk();
    C.due("rename(true): it is so", x.rename(true), false);
    C.due("done", x.count(9), 0);
    C.due("rename(false)", x.rename(false), true);
    C.due("count(2)", x.count(2), 0);
    C.due("rename(false): it is so", x.rename(false), false);
    C.due("done", x.count(9), 1);
    C.due("rename(true)", x.rename(true), true);
    C.due("count(2)", x.count(2), 1);
  }

  private static void units() {
    C.says("UNITS (1 .. 4) and LATENCY (1 .. 6) of a KIND are set: true; false, and nothing happens: they are so, no such ones.");
    TraceDesk x = new TraceDesk();
    int[] latencies = {1, 3, 2, 1};
    for (int k = 0; k < 4; k++) {
      C.due("they are so", x.units(k, 1, latencies[k]), false);
      int[][] wrong = {{0, 1}, {5, 1}, {-1, 1}, {1, 0}, {1, 7}, {1, -1}, {4, 7}, {5, 6}, {0, 0}, {MIN, MIN}, {MAX, MAX}};
      for (int[] pair : wrong) {
        C.due("units(" + k + ", " + pair[0] + ", " + pair[1] + ")", x.units(k, pair[0], pair[1]), false);
      }
      C.due("nothing happens", x.kind(k, 0) * 10 + x.kind(k, 1), 10 + latencies[k]);
      C.due("nothing happens", x.count(9), 3 * k);
      C.due("units(k, 1, 6)", x.units(k, 1, 6), true);
      C.due("units(k, 4, 6)", x.units(k, 4, 6), true);
      C.due("units(k, 4, 1)", x.units(k, 4, 1), true);
      C.due("they are so", x.units(k, 4, 1), false);
      C.due("they are set", x.kind(k, 0) * 10 + x.kind(k, 1), 41);
    }
    for (int k : new int[] {-1, 4, 5, MIN, MAX}) {
      C.due("units(" + k + ", 2, 2)", x.units(k, 2, 2), false);
    }
    C.due("done", x.count(9), 12);
  }

  private static void undo() {
    C.says("The last thing done (set, put, run, clear, rename, units) is undone: true; false: there is none");
    TraceDesk x = C.desk(LOOP);
    C.due("there is none", x.undo(), false);
    x.set(5, 9);
    x.put(7, 9);
    x.run();
    x.clear();
    x.rename(false);
    x.units(3, 2, 2);
    x.hold(0);
    x.feed(1, 2, 3, 4, 5);
    C.due("six things", x.count(9), 6);
    C.due("undo()", x.undo(), true);
    C.due("units", x.kind(3, 0) * 10 + x.kind(3, 1), 11);
    C.due("undo()", x.undo(), true);
    C.due("renaming", x.count(2), 1);
    C.due("counts are none yet", x.count(3), 0);
    C.due("undo()", x.undo(), true);
    C.due("counts", x.count(3), 6);
    C.due("gone", x.gone(0, 0), 4);
    C.due("undo()", x.undo(), true);
    C.due("counts", x.count(3), 0);
    C.due("registers", registers(x), "0 0 0 0 0 9");
    C.due("undo()", x.undo(), true);
    C.due("cells", cells(x), "0 0 0 0 0 0 0 0");
    C.due("one is left", x.count(9), 1);
    C.due("undo()", x.undo(), true);
    C.due("registers", registers(x), "0 0 0 0 0 0");
    C.due("there is none", x.undo(), false);
    C.due("what is held stays", x.count(11), 1);
    C.due("the tape stays", x.count(8), 20);
    x.set(1, 1);
    C.due("and then anew", x.undo(), true);
    C.due("there is none", x.undo(), false);
  }

  /** All that is told is so again once a thing is undone, held or not. */
  private static void undoOfEach() {
    String text = "block x; a=at 0; b=at 1; if a<2 goto y else z; block y; f=f+1; f=f*2; e=a+1; if b<1 goto w else z;"
        + "block z; c=1+0; d=c+1; at 0=1; if f<9 goto x else w; block w; stop;";
    for (int what = 0; what < 7; what++) {
      TraceDesk x = C.desk(text);
      x.put(0, 3);
      x.run();
      x.run();
      x.put(1, 2);
      String before = Rows.all(x);
      x.hold(2);
      C.says("The last thing done (set, put, run, clear, rename, units) is undone");
      change(x, what);
      C.due("a change shows: " + what, Rows.all(x).equals(before), false);
      C.due("undo()", x.undo(), true);
      C.due("all behind undo(): " + what, Rows.all(x), before);
      C.says("It goes on from what a SLOT holds");
      change(x, what);
      C.due("a change shows: " + what, Rows.all(x).equals(before), false);
      C.due("restore(2)", x.restore(2), true);
      C.due("all behind restore(2): " + what, Rows.all(x), before);
    }
  }

  private static void change(TraceDesk x, int what) {
    switch (what) {
      case 0:
        C.due("set", x.set(5, 7), true);
        break;
      case 1:
        C.due("put", x.put(1, 0), true);
        break;
      case 2:
        x.run();
        break;
      case 3:
        C.due("clear", x.clear() > 0, true);
        break;
      case 4:
        C.due("rename", x.rename(false), true);
        break;
      case 5:
        C.due("units", x.units(0, 1, 6), true);
        break;
      default:
        C.due("units", x.units(2, 4, 1), true);
    }
  }

  private static void lastForty() {
    C.says("(the last 40 can be)");
    TraceDesk x = new TraceDesk();
    for (int n = 1; n <= 40; n++) {
      x.set(0, n);
      C.due("things", x.count(9), n);
    }
    x.set(0, 41);
    C.due("things", x.count(9), 40);
    for (int n = 40; n >= 1; n--) {
      C.due("undo()", x.undo(), true);
      C.due("register", x.reg(0), n);
      C.due("things", x.count(9), n - 1);
    }
    C.due("the 41st can't be", x.undo(), false);
    C.due("register", x.reg(0), 1);
    for (int n = 2; n <= 100; n++) {
      x.set(0, n);
    }
    for (int n = 0; n < 20; n++) {
      x.undo();
    }
    C.due("register", x.reg(0), 80);
    C.due("things", x.count(9), 20);
    x.set(0, -1);
    C.due("things", x.count(9), 21);
    x.undo();
    x.undo();
    C.due("register", x.reg(0), 79);
  }

  private static void slow() {
    C.says("What a RUN would be (nothing happens): what 0 how it comes out, 1 SLOW cycles, 2 BLOCKS begun. NONE for others.");
    TraceDesk x = C.desk(LOOP);
    C.due("slow(0)", x.slow(0), 0);
    C.due("slow(1)", x.slow(1), 14);
    C.due("slow(2)", x.slow(2), 6);
    for (int what : new int[] {-1, 3, 4, MIN, MAX}) {
      C.due("slow(" + what + ")", x.slow(what), -1);
    }
    C.due("nothing happens", registers(x), "0 0 0 0 0 0");
    C.due("nothing happens", x.count(3) + x.count(9), 0);
    x.set(0, 4);
    C.due("from registers as they are", x.slow(2), 2);
  }

  private static void hold() {
    C.says("All that goes on (not the tape) is held in a SLOT (0 .. 2): true; false: no such one.");
    TraceDesk x = new TraceDesk();
    for (int slot : new int[] {-1, 3, 4, MIN, MAX}) {
      C.due("hold(" + slot + ")", x.hold(slot), false);
    }
    C.due("slots", x.count(11), 0);
    for (int slot = 0; slot < 3; slot++) {
      x.set(0, slot + 1);
      C.due("hold(" + slot + ")", x.hold(slot), true);
      C.due("slots", x.count(11), slot + 1);
    }
    for (int slot = 2; slot >= 0; slot--) {
      C.due("restore(" + slot + ")", x.restore(slot), true);
      C.due("each for itself", x.reg(0), slot + 1);
    }
    x.set(0, 9);
    C.due("hold(0) again", x.hold(0), true);
    x.set(0, 8);
    x.restore(0);
    C.due("the later is held", x.reg(0), 9);
    C.due("slots", x.count(11), 3);
    C.due("a hold is nothing to undo", x.undo(), false);
  }

  private static void holdsAll() {
    C.says("All that goes on (not the tape) is held");
    TraceDesk x = C.desk(LOOP);
    x.set(5, 4);
    x.put(7, 5);
    x.run();
    x.rename(false);
    x.units(3, 3, 3);
    x.feed(1, 2, 3, 4, 5);
    x.hold(2);
    x.set(5, 7);
    x.put(7, 7);
    x.run();
    x.clear();
    x.rename(true);
    x.units(3, 1, 1);
    x.feed(1, 2, 3, 4, 5);
    C.due("restore(2)", x.restore(2), true);
    C.due("registers", registers(x), "5 10 0 0 0 4");
    C.due("cells", cells(x), "0 0 0 0 0 0 0 5");
    C.due("begun", x.block(0, 2) * 10 + x.block(1, 2), 51);
    C.due("gone", x.gone(0, 0) * 10 + x.gone(0, 1), 41);
    C.due("renaming", x.count(2), 0);
    C.due("units", x.kind(3, 0) * 10 + x.kind(3, 1), 33);
    C.due("not the tape", x.count(8), 40);
    C.due("the lengths are as the units are", x.slow(1), 1 + 3 + 3 + 3);
  }

  private static void restore() {
    C.says("It goes on from what a SLOT holds (that stays there; nothing can be undone then): true");
    TraceDesk x = new TraceDesk();
    x.set(0, 5);
    x.hold(1);
    for (int n = 0; n < 3; n++) {
      x.set(0, 6 + n);
      x.set(3, 6 + n);
      C.due("restore(1)", x.restore(1), true);
      C.due("registers", registers(x), "5 0 0 0 0 0");
      C.due("slots", x.count(11), 1);
    }
  }

  private static void restoreOfNothing() {
    C.says("false, and nothing happens: no such one, nothing is held.");
    TraceDesk x = new TraceDesk();
    x.set(0, 5);
    x.hold(1);
    x.set(0, 6);
    for (int slot : new int[] {-1, 0, 2, 3, 4, MIN, MAX}) {
      C.due("restore(" + slot + ")", x.restore(slot), false);
      C.due("register", x.reg(0), 6);
      C.due("done", x.count(9), 2);
    }
    C.due("undo()", x.undo(), true);
    C.due("register", x.reg(0), 5);
  }

  private static void restoreUndoesNothing() {
    C.says("nothing can be undone then");
    TraceDesk x = new TraceDesk();
    x.set(0, 5);
    x.hold(0);
    x.set(0, 6);
    x.restore(0);
    C.due("done", x.count(9), 0);
    C.due("undo()", x.undo(), false);
    C.due("register", x.reg(0), 5);
    x.set(0, 7);
    C.due("done", x.count(9), 1);
    x.undo();
    C.due("register", x.reg(0), 5);
    C.due("undo()", x.undo(), false);
  }

  private static void count() {
    C.says("8 bytes on the tape, 9 things that can be undone, 10 RENAMED of all, 11 SLOTS that hold something. NONE for others.");
    TraceDesk x = C.desk(LOOP);
    x.feed(1, 2, 3, 4, 5);
    x.set(2, 1);
    x.hold(2);
    // two traces: the loop's, whose end awaits its line, in two cycles; the other's line and stop in one
    String due = "2 2 1 0 3 3 6 0 20 1 0 1";
    StringBuilder got = new StringBuilder();
    for (int what = 0; what < 12; what++) {
      got.append(what == 0 ? "" : " ").append(x.count(what));
    }
    C.due("count", got.toString(), due);
    for (int what : new int[] {-1, 12, 13, MIN, MAX}) {
      C.due("count(" + what + ")", x.count(what), -1);
    }
    x = C.desk("block x; a=at 1; if a<5 goto y else z; block y; b=b/a; c=b+1; stop; block z; d=7+0; stop;");
    x.run();
    x.put(1, 2);
    x.run();
    x.hold(1);
    x.feed(1, 2, 3, 4, 5);
    // lengths 8 and 1, floors 7 and 1, plains 8 and 2; b is a guess, b and c are renamed
    due = "3 4 1 4 9 8 10 1 20 3 2 1";
    got.setLength(0);
    for (int what = 0; what < 12; what++) {
      got.append(what == 0 ? "" : " ").append(x.count(what));
    }
    C.due("count", got.toString(), due);
  }

  private static void callsOfAnObject() {
    C.says("An object is used for at most 512 calls after it has been made");
    TraceDesk x = new TraceDesk();
    for (int n = 1; n <= 511; n++) {
      C.due("call " + n, x.set(n % 6, n), true);
    }
    C.due("call 512", x.reg(1), 511);
  }
}
