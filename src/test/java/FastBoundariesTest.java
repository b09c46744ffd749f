/** Fast runs, joined blocks, growth, what is saved: each sentence that names a boundary, by a test of its own. */
public final class FastBoundariesTest {
  private static final Checks C = new Checks();
  private static final int MIN = Integer.MIN_VALUE;
  private static final int MAX = Integer.MAX_VALUE;

  /** c is a guess above two splits, laid in the first one's cycle. */
  private static final String GUESS = "block x; if a<1 goto y else z; block y; if b<1 goto w else z;"
      + "block w; c=1/d; stop; block z; stop;";
  /** Off at each of three splits. */
  private static final String THREE = "block x; if a<1 goto y else s; block y; if b<1 goto z else s; block z; f=1/d;"
      + "if c<1 goto w else s; block w; stop; block s; stop;";
  /** m stands in the midst of a trace and is come to from q, too. */
  private static final String MIDST = "block s; if a<2 goto p else q; block p; goto m; block q; goto m;"
      + "block m; b=c*c; d=1/e; stop;";
  /** Three copied, one reading the other. */
  private static final String COPIED = "block x; a=d*2; b=d*3; c=b*2; e=c+1; if d<5 goto y else z; block y; stop; block z; stop;";

  private FastBoundariesTest() { }

  public static void main(String[] args) {
    readFirst();
    storesReadFirst();
    splitsReadFirst();
    noLaterCycleWhenOff();
    sameCycleWhenOff();
    exitGoesOn();
    copiedInOrder();
    guessThatFaults();
    guessesOfTwoSplits();
    guessThatLoads();
    otherLinesThatFault();
    copiedThatFault();
    firstOfItsTrace();
    noMoreThan200();
    twoHundredAndOne();
    begunToTheSplit();
    firstAloneIfItFaults();
    cyclesOfTraces();
    cyclesWhenOff();
    cyclesOfBlocksAlone();
    nothingCountedOfFaults();
    fast();
    tracesThatWentFast();
    tracesThatWentOff();
    agrees();
    left();
    leftOfNoStop();
    firstIsNotJoined();
    blockZeroIsJoined();
    otherWaysJoin();
    joinedBehindJoined();
    sizes();
    growth();
    saved();
    savedByFourAtMost();
    savedBelowZero();
    savedTimesBegun();
    C.end("FastBoundariesTest");
  }

  private static void set(TraceDesk x, int... values) {
    for (int r = 0; r < values.length; r++) {
      x.set(r, values[r]);
    }
  }

  private static void readFirst() {
    C.says("A TRACE goes FAST cycle by cycle: all of a cycle read first, then set");
    TraceDesk x = C.desk("units sums 4 1; block x; b=a+0; c=a+b; b=7+0; a=5+0; stop;");
    x.set(0, 9);
    C.due("cycles", Rows.items(x, 0, 1), "0 1 1 1 1");
    C.due("left", Rows.left(x), "5 7 18 0 0 0");
    x = C.desk("units sums 2 1; block x; b=a+0; a=5+0; stop;");
    x.set(0, 9);
    C.due("cycles", Rows.items(x, 0, 1), "0 0 0");
    C.due("left", Rows.left(x), "5 9 0 0 0 0");
  }

  private static void storesReadFirst() {
    C.says("then set (a STORE, too)");
    TraceDesk x = C.desk("units cells 2 2; block x; a=at 0; at 0=7; stop;");
    x.put(0, 3);
    C.due("cycles", Rows.items(x, 0, 1), "0 0 0");
    C.due("the load reads what was", x.left(0), 3);
    C.due("the store sets", x.left(8), 7);
    x = C.desk("units cells 2 2; block x; at b=a; a=5+0; b=6+0; stop;");
    set(x, 9, 2);
    C.due("a store reads what was", x.left(8 + 2), 9);
    C.due("nothing elsewhere", x.left(8 + 6), 0);
    C.due("left", Rows.left(x), "5 6 0 0 0 0");
  }

  private static void splitsReadFirst() {
    C.says("all of a cycle read first");
    TraceDesk x = C.desk("block x; if a<5 goto y else z; block y; a=9+0; stop;"
        + "block z; a=1+0; b=0+0; c=0+0; d=0+0; e=0+0; f=0+0; goto y;");
    C.due("cycles", Rows.items(x, 0, 1), "0 0 1");
    C.due("not renamed", x.trace(0, 6), 0);
    x.set(0, 3);
    C.due("on by what was", Rows.fast(x), "0 2 2 1 0");
    C.due("a", x.left(0), 9);
  }

  private static void noLaterCycleWhenOff() {
    C.says("At a SPLIT that goes OFF no later cycle is done");
    TraceDesk x = C.desk("block x; if a<5 goto y else z; block y; at 0=1; b=2+0; c=3+0; stop; block z; stop;");
    x.set(0, 5);
    C.due("off", x.fast(4), 1);
    C.due("no store", x.left(8), 0);
    C.due("no copies", Rows.left(x), "5 0 0 0 0 0");
    x.set(0, 4);
    C.due("on", x.fast(4), 0);
    C.due("a store", x.left(8), 1);
    C.due("copies", Rows.left(x), "4 2 3 0 0 0");
  }

  private static void sameCycleWhenOff() {
    C.says("its COPIED are, in order, one behind the other, then the BLOCK to which OFF leads begins");
    TraceDesk x = C.desk("block x; a=d+1; b=d+2; c=d+3; at 1=d; if d<5 goto y else z; block y; stop; block z; e=a+c; stop;");
    x.set(3, 9);
    C.due("cycles", Rows.items(x, 0, 1), "0 1 2 0 0 2");
    C.due("off", x.fast(4), 1);
    C.due("the split's own cycle, what is copied, the block behind", Rows.left(x), "10 11 12 9 22 0");
    C.due("a store in its cycle", x.left(9), 9);
    C.due("agrees()", x.agrees(), 1);
  }

  private static void exitGoesOn() {
    C.says("else the EXIT's END goes on");
    TraceDesk x = C.desk("block x; goto y; block y; if a<1 goto v else w; block v; b=1+0; goto u; block w; b=2+0; stop;"
        + "block u; c=3+0; stop;");
    C.due("traces", Rows.traces(x), "0 1 2 4 | 3");
    C.due("by way 0", Rows.left(x), "0 1 3 0 0 0");
    x.set(0, 1);
    C.due("by way 1", Rows.left(x), "1 2 0 0 0 0");
    x = C.desk("block x; a=a+1; if a<3 goto x else y; block y; if a<9 goto z else x; block z; b=a+0; stop;");
    C.due("traces", Rows.traces(x), "0 | 1 2");
    C.due("an if, an if, a stop", Rows.left(x), "3 3 0 0 0 0");
    C.due("it stops", Rows.fast(x), "0 8 5 4 0");
    x.set(0, 9);
    C.due("by way 1, again and again", x.fast(0), 2);
  }

  private static void copiedInOrder() {
    C.says("its COPIED are, in order, one behind the other");
    TraceDesk x = C.desk(COPIED);
    x.set(3, 9);
    C.due("cycles", Rows.items(x, 0, 1), "1 0 3 6 0 6");
    C.due("copied", x.copied(0, 4, 0) * 100 + x.copied(0, 4, 1) * 10 + x.copied(0, 4, 2), 23);
    C.due("left", Rows.left(x), "18 27 54 9 55 0");
    x = C.desk("block x; b=d+d; c=a+1; a=5+0; if d<5 goto y else z; block y; stop; block z; stop;");
    set(x, 7, 0, 0, 9);
    C.due("two copied", x.item(0, 3, 7), 2);
    C.due("read, then set", Rows.left(x), "5 18 8 9 0 0");
    x = C.desk("block x; b=d+d; a=5+0; c=a+1; if d<5 goto y else z; block y; stop; block z; stop;");
    set(x, 7, 0, 0, 9);
    C.due("set, then read", Rows.left(x), "5 18 6 9 0 0");
  }

  private static void guessThatFaults() {
    C.says("A GUESS that FAULTS sets 0: the run FAULTS when the last SPLIT ahead of it does not go OFF");
    TraceDesk x = C.desk(GUESS);
    C.due("cycles", Rows.items(x, 0, 1), "0 1 0 3 3");
    C.due("guesses", Rows.items(x, 0, 6), "0 0 1 0 0");
    set(x, 5, 0);
    C.due("off at the first", Rows.fast(x), "0 2 2 2 1");
    set(x, 0, 5);
    C.due("off at the last", Rows.fast(x), "0 3 3 2 1");
    C.due("left", Rows.left(x), "0 5 0 0 0 0");
    set(x, 0, 0);
    C.due("off at none", Rows.fast(x), "1 0 1 1 0");
    x.set(3, 1);
    C.due("no fault", Rows.fast(x), "0 4 3 1 0");
    C.due("left", Rows.left(x), "0 0 1 1 0 0");
  }

  private static void guessesOfTwoSplits() {
    C.says("the run FAULTS when the last SPLIT ahead of it does not go OFF");
    TraceDesk x = C.desk("block x; if a<1 goto y else z; block y; c=1/d; if b<1 goto w else z; block w; e=at f; stop;"
        + "block z; stop;");
    C.due("cycles of the splits and the guesses", x.item(0, 0, 1) * 1000 + x.item(0, 1, 1) * 100 + x.item(0, 3, 1) * 10
        + x.item(0, 4, 1), 10);
    set(x, 0, 5, 0, 0, 0, 8);
    C.due("c faults behind the first, e behind the last, which goes off", Rows.fast(x), "1 0 1 1 0");
    x.set(3, 1);
    C.due("e alone: off", x.fast(0), 0);
    x.set(1, 0);
    C.due("e alone: on", x.fast(0), 1);
    set(x, 0, 0, 0, 0, 0, 7);
    C.due("c alone: on", x.fast(0), 1);
    set(x, 1, 0, 0, 0, 0, 8);
    C.due("both, off at the first", x.fast(0), 0);
  }

  private static void guessThatLoads() {
    C.says("A GUESS that FAULTS sets 0");
    TraceDesk x = C.desk(GUESS.replace("1/d", "at d"));
    for (int cell : new int[] {-1, 8, MIN, MAX}) {
      set(x, 0, 5, 0, cell);
      C.due("off", x.fast(0) * 10 + x.agrees(), 1);
      set(x, 0, 0);
      C.due("on", x.fast(0) * 10 + x.agrees(), 11);
    }
    x = C.desk("block x; if a<1 goto y else z; block y; c=1/d; e=5/c; f=at e; b=1/d; stop; block z; stop;");
    C.due("one guess reads the other", x.trace(0, 8) >= 1, true);
    C.due("on", x.fast(0) * 10 + x.agrees(), 11);
    x.set(0, 1);
    C.due("off", x.fast(0) * 10 + x.agrees(), 1);
  }

  private static void otherLinesThatFault() {
    C.says("any other LINE that FAULTS: at once");
    TraceDesk x = C.desk("block x; c=1/d; if a<1 goto y else z; block y; stop; block z; stop;");
    C.due("in the split's cycle", Rows.items(x, 0, 1), "0 0 1");
    for (int a = 0; a < 2; a++) {
      x.set(0, a);
      C.due("ahead of the split", x.fast(0) * 10 + x.agrees(), 11);
      C.due("nothing counted", x.fast(1), 0);
    }
    x = C.desk("block x; a=at d; if a<1 goto y else z; block y; stop; block z; stop;");
    x.set(3, 8);
    C.due("ahead of the split's cycle", Rows.fast(x), "1 0 1 1 0");
    x = C.desk("block x; if a<1 goto y else z; block y; at b=1; stop; block z; stop;");
    x.set(1, 8);
    C.due("behind the split, on", Rows.fast(x), "1 0 1 1 0");
    x.set(0, 1);
    C.due("behind the split, off", Rows.fast(x), "0 2 2 2 1");
    x = C.desk("block x; a=1/b; goto y; block y; stop;");
    C.due("without a split", Rows.fast(x), "1 0 1 1 0");
  }

  private static void copiedThatFault() {
    C.says("4 of these that went OFF (likewise, if it FAULTS in what is COPIED)");
    TraceDesk x = C.desk("block x; c=d*2; e=f/b; if d<5 goto y else z; block y; stop; block z; stop;");
    C.due("copied", x.copied(0, 2, 0), 1);
    x.set(3, 9);
    C.due("in what is copied", Rows.fast(x), "1 0 1 1 1");
    C.due("agrees()", x.agrees(), 1);
    x.set(3, 4);
    C.due("on the trace", Rows.fast(x), "1 0 1 1 0");
    C.due("agrees()", x.agrees(), 1);
  }

  private static void firstOfItsTrace() {
    C.says("A FAST run: as a RUN, but where a BLOCK that is the first of its TRACE begins");
    TraceDesk x = C.desk(MIDST);
    C.due("traces", Rows.traces(x), "0 1 3 | 2");
    x.set(4, 1);
    C.due("s, p, m fast", Rows.fast(x), "0 2 3 1 0");
    x.set(0, 5);
    C.due("s off, q fast, m alone", Rows.fast(x), "0 9 3 2 1");
    x = C.desk("block x; goto y; block y; a=a+1; if a<3 goto y else z; block z; stop;");
    C.due("traces", Rows.traces(x), "0 1 | 2");
    // x and y in two cycles, y alone in two, z in one
    C.due("y alone, twice", Rows.fast(x), "0 7 5 2 0");
  }

  private static void noMoreThan200() {
    C.says("and with all BLOCKS of that no more than 200 were begun, the TRACE goes FAST");
    TraceDesk x = C.desk("block g; goto h; block h; goto i; block i; goto j; block j; goto g;");
    C.due("fifty of four", Rows.fast(x), "2 50 200 50 0");
    x = C.desk("block x; a=a+1; goto y; block y; if a<100 goto x else z; block z; stop;");
    x.set(0, 1);
    C.due("traces", Rows.traces(x), "0 1 | 2");
    C.due("99 of two, one of one", x.fast(2) * 1000 + x.fast(3), 199100);
    C.due("it stops", x.fast(0), 0);
    x.set(0, 0);
    C.due("a hundred of two", x.fast(2) * 1000 + x.fast(3), 200100);
    C.due("a 201st", x.fast(0), 2);
  }

  private static void twoHundredAndOne() {
    C.says("else the BLOCK alone, SLOW");
    TraceDesk x = C.desk("block x; a=a+1; goto y; block y; goto z; block z; goto x;");
    C.due("66 of three, two alone", Rows.fast(x), "2 69 200 66 0");
    x = C.desk("block s; goto x; block x; a=a+1; goto y; block y; goto x;");
    C.due("too long", x.run(), 2);
    C.due("traces", Rows.traces(x), "1 2 | 0");
    C.due("one of one, 99 of two, one alone", Rows.fast(x), "2 102 200 100 0");
    x = C.desk("block s; goto x; block x; a=a+1; if a<100 goto y else t; block y; goto x; block t; stop;");
    x.set(0, 50);
    C.due("run()", x.run(), 0);
    x.set(0, 1);
    C.due("traces", Rows.traces(x), "1 2 | 0 | 3");
    // s, 98 times x and y, x off to t: 1 + 98 * 2 + 1 + 1
    C.due("199 in all", Rows.fast(x), "0 298 199 101 1");
    x.set(0, 0);
    C.due("s, 99 of two, then x alone", x.fast(2) * 1000 + x.fast(3), 200100);
    C.due("too long", x.fast(0), 2);
  }

  private static void begunToTheSplit() {
    C.says("(its BLOCKS to the one whose SPLIT goes OFF are begun");
    TraceDesk x = C.desk(THREE);
    x.set(3, 1);
    C.due("traces", Rows.traces(x), "0 1 2 3 | 4");
    C.due("off at none", x.fast(2), 4);
    x.set(2, 1);
    C.due("off at the third", x.fast(2), 4);
    C.due("off", x.fast(3) * 10 + x.fast(4), 21);
    x.set(1, 1);
    C.due("off at the second", x.fast(2), 3);
    x.set(0, 1);
    C.due("off at the first", x.fast(2), 2);
    C.due("off", x.fast(3) * 10 + x.fast(4), 21);
    x = C.desk("block x; goto y; block y; if a<1 goto z else s; block z; stop; block s; stop;");
    x.set(0, 1);
    C.due("x and y, then s", x.fast(2), 3);
  }

  private static void firstAloneIfItFaults() {
    C.says("if the run FAULTS in it, its first alone)");
    TraceDesk x = C.desk(THREE);
    C.due("slow: it faults in the third", x.slow(2), 3);
    C.due("fast", x.fast(0) * 10 + x.fast(2), 11);
    x = C.desk("block s; goto x; block x; if b<1 goto x else y; block y; goto z; block z; a=1/c; stop;");
    x.set(1, 1);
    C.due("traces", Rows.traces(x), "0 1 | 2 3");
    // s and x are begun, off to y; of y and z the first alone
    C.due("fast", x.fast(0) * 10 + x.fast(2), 13);
    x = C.desk("block x; c=d*2; e=f/b; goto w; block w; if d<5 goto y else z; block y; stop; block z; stop;");
    x.set(3, 9);
    C.due("in what is copied, too", x.fast(0) * 10 + x.fast(2), 11);
    C.due("slow", x.slow(2), 1);
  }

  private static void cyclesOfTraces() {
    C.says("FAST cycles: of a TRACE LENGTH");
    TraceDesk x = C.desk("block x; a=1*1; b=a*1; if b<5 goto y else z; block y; stop; block z; stop;");
    C.due("length", x.trace(0, 2), 8);
    C.due("fast(1)", x.fast(1), 8);
    x = C.desk("block x; a=1*1; stop;");
    C.due("what takes longer than the trace is not awaited", x.fast(1), 1);
  }

  private static void cyclesWhenOff() {
    C.says("or, if it goes OFF, the SPLIT's cycle and 1 and LATENCIES of its COPIED, added");
    TraceDesk x = C.desk(COPIED);
    x.set(3, 9);
    C.due("copied: hard, hard, sums", x.fast(1), 0 + 1 + 3 + 3 + 1 + 1);
    x = C.desk("block x; a=at 1; if a<5 goto y else z; block y; stop; block z; stop;");
    x.put(1, 9);
    C.due("none copied, the split in cycle 2", x.fast(1), 2 + 1 + 1);
    x = C.desk("units jumps 1 6; block x; if a<5 goto y else z; block y; stop; block z; stop;");
    x.set(0, 9);
    C.due("the split's latency is not awaited", x.fast(1), 1 + 1);
    x = C.desk("block x; if f<1 goto y else z; block y; a=1+0; b=2+0; if f<0 goto w else v; block w; stop; block z; stop;"
        + "block v; stop;");
    C.due("cycles", Rows.items(x, 0, 1), "0 0 2 1 3 1 3");
    C.due("copies that are copied", x.fast(1), 1 + 1 + 1 + 1 + 1);
    C.due("left", Rows.left(x), "1 2 0 0 0 0");
  }

  private static void cyclesOfBlocksAlone() {
    C.says("of a BLOCK alone its SLOW ones");
    TraceDesk x = C.desk(MIDST);
    set(x, 5, 0, 0, 0, 1);
    C.due("s off, q, m alone", x.fast(1), 1 + 1 + 3 + 3 + 1);
    x.units(3, 1, 4);
    C.due("m's end takes 4", x.fast(1), 1 + 1 + 3 + 3 + 4);
  }

  private static void nothingCountedOfFaults() {
    C.says("(nothing is counted of a TRACE in which the run FAULTS, nor of the BLOCK)");
    TraceDesk x = C.desk(MIDST);
    x.set(0, 5);
    C.due("s off, q; nothing of m", Rows.fast(x), "1 2 3 2 1");
    C.due("slow counts what is done of m", x.slow(1), 1 + 1 + 3);
    x.set(0, 0);
    C.due("nothing of the trace", Rows.fast(x), "1 0 1 1 0");
    x = C.desk("block x; a=1+0; if b<1 goto x else y; block y; c=5*1; d=1/e; stop;");
    x.set(1, 2);
    C.due("of x, nothing of y", Rows.fast(x), "1 1 2 2 0");
  }

  private static void fast() {
    C.says("What a FAST run would be (nothing happens)");
    TraceDesk x = C.desk("block x; a=a+1; at 1=a; if a<5 goto x else y; block y; stop;");
    for (int what = 0; what < 5; what++) {
      C.due("fast(" + what + ") is told", x.fast(what) >= 0, true);
    }
    for (int what : new int[] {MIN, -1, 5, 6, MAX}) {
      C.due("fast(" + what + ")", x.fast(what), -1);
    }
    C.due("registers", x.reg(0), 0);
    C.due("cells", x.cell(1), 0);
    C.due("counts", x.count(3) + x.count(9), 0);
    C.due("undo()", x.undo(), false);
  }

  private static void tracesThatWentFast() {
    C.says("3 TRACES that went FAST (one in which it FAULTS, too)");
    TraceDesk x = C.desk("block x; a=a+1; if a<3 goto x else y; block y; b=1/c; stop;");
    C.due("three of x, one of y that faults", Rows.fast(x), "1 6 4 4 0");
    x.set(2, 1);
    C.due("three of x, one of y", x.fast(3), 4);
  }

  private static void tracesThatWentOff() {
    C.says("4 of these that went OFF");
    TraceDesk x = C.desk("block x; a=a+1; if a<3 goto y else z; block y; b=b+1; if b<9 goto x else z; block z; stop;");
    C.due("traces", Rows.traces(x), "0 1 | 2");
    // x y, x y, x off to z: the exit of y is no split
    C.due("one of four", x.fast(3) * 10 + x.fast(4), 41);
    x = C.desk("block x; a=a+1; if a<3 goto y else x; block y; goto x;");
    C.due("again and again", x.fast(0), 2);
    // twice x and y, then x alone off again and again; the last one alone, as no two may begin
    C.due("off", x.fast(2) * 1000 + x.fast(4), 200195);
  }

  private static void agrees() {
    C.says("Whether both come out alike, and, if they STOP, with all REGISTERS and CELLS alike: 1, 0.");
    TraceDesk x = C.desk("block x; a=a+1; at 7=a; f=1/b; if a<c goto x else y; block y; stop;");
    C.due("faults", x.slow(0) * 10 + x.agrees(), 11);
    x.set(1, 1);
    C.due("stops", x.slow(0) * 10 + x.agrees(), 1);
    x.set(2, 999);
    C.due("too long", x.slow(0) * 10 + x.agrees(), 21);
  }

  private static void left() {
    C.says("What a REGISTER, a CELL (8 and more: the CELL of 8 less) would be behind a FAST run");
    TraceDesk x = C.desk("block x; a=10+0; b=11+0; c=12+0; d=13+0; e=14+0; f=15+0; goto y;"
        + "block y; at 0=20; at 1=21; at 2=22; at 3=23; at 4=24; goto z; block z; at 5=25; at 6=26; at 7=27; stop;");
    int[] due = {10, 11, 12, 13, 14, 15, 0, 0, 20, 21, 22, 23, 24, 25, 26, 27};
    for (int which = 0; which < due.length; which++) {
      C.due("left(" + which + ")", x.left(which), due[which]);
    }
    for (int which : new int[] {MIN, -8, -1, 16, 17, 24, MAX}) {
      C.due("left(" + which + ")", x.left(which), 0);
    }
    C.due("nothing happens", x.reg(0) + x.cell(0) + x.count(3), 0);
  }

  private static void leftOfNoStop() {
    C.says("(0: it does not STOP, no such one)");
    TraceDesk x = C.desk("block x; a=a+1; at 7=a; if a<c goto x else y; block y; f=1/b; stop;");
    set(x, 3, 0, 0, 4);
    x.put(2, 6);
    C.due("faults: a", x.left(0), 0);
    C.due("faults: d", x.left(3), 0);
    C.due("faults: cells", x.left(10) + x.left(15), 0);
    x.set(2, 999);
    C.due("too long: a", x.left(0), 0);
    C.due("too long: d", x.left(3), 0);
    C.due("too long: cells", x.left(10) + x.left(15), 0);
    set(x, 3, 1, 0);
    C.due("stops", x.left(0) * 100 + x.left(3) * 10 + x.left(10), 446);
  }

  private static void joined(String text, int due) {
    C.due("joined of " + text, C.desk(text).growth(3), due);
  }

  private static void firstIsNotJoined() {
    C.says("JOINED: BLOCKS that are not the first of their TRACE");
    joined("block x; goto x;", 0);
    joined("block x; if a<1 goto y else x; block y; stop;", 0);
    TraceDesk x = C.desk("block x; if a<1 goto y else z; block y; stop; block z; goto x;");
    C.due("traces", Rows.traces(x), "2 0 1");
    C.due("block 0 behind another", x.growth(3), 3);
  }

  private static void blockZeroIsJoined() {
    C.says("and are BLOCK 0, or some WAY of some END leads to them");
    TraceDesk x = C.desk("block x; goto y; block y; stop; block z; goto x;");
    C.due("traces", Rows.traces(x), "2 0 1");
    C.due("block(0, 8)", x.block(0, 8), 1);
    C.due("z, first of the trace, is none", x.block(2, 8), 0);
    x = C.desk("block y; stop; block x; goto y;");
    C.due("block 0 alone", x.growth(3), 1);
  }

  private static void otherWaysJoin() {
    C.says("some WAY of some END leads to them that is not from the BLOCK ahead in the TRACE");
    joined("block x; goto y; block y; goto z; block z; stop;", 0);
    joined("block x; if a<1 goto y else y; block y; stop;", 0);
    joined("block x; goto y; block y; if a<1 goto z else y; block z; stop;", 2 + 4);
    joined("block x; goto y; block y; goto z; block z; if a<1 goto z else z;", 4);
    joined("block x; goto y; block y; goto z; block z; stop; block w; goto z;", 4);
    joined("block x; goto y; block y; goto z; block z; stop; block w; if a<1 goto w else z;", 4);
    joined("block x; if a<1 goto y else z; block y; goto z; block z; stop;", 4);
    joined("block x; goto y; block y; goto z; block z; goto x;", 0);
  }

  private static void joinedBehindJoined() {
    C.says("or that BLOCK ahead is JOINED");
    joined("block g; goto h; block h; goto i; block i; goto j; block j; stop; block k; goto h;", 2 + 4 + 8);
    joined("block g; goto h; block h; goto i; block i; goto j; block j; stop; block k; goto i;", 4 + 8);
    joined("block g; goto h; block h; goto i; block i; goto j; block j; stop; block k; goto j;", 8);
    joined("block g; goto h; block h; goto i; block i; goto j; block j; stop; block k; goto g;", 0);
  }

  private static void sizes() {
    C.says("SIZE: all LINES and ENDS; GROWN: ITEMS of all TRACES, COPIED of all SPLITS, LINES and ENDS of JOINED BLOCKS, added.");
    TraceDesk x = C.desk(COPIED);
    C.due("size", x.growth(0), 4 + 3);
    C.due("grown", x.growth(1), 6 + 1 + 3);
    x = C.desk(MIDST);
    C.due("size", x.growth(0), 2 + 4);
    // items: split, b, d, exit; q's goto; joined: m
    C.due("grown", x.growth(1), 4 + 1 + 3);
    C.due("joined", x.growth(3), 8);
    x = C.desk("block x; a=1+0; b=1+0; goto y; block y; stop; block z; goto x;");
    C.due("traces", Rows.traces(x), "2 0 1");
    C.due("block 0 and the one behind are joined", x.growth(3), 3);
    C.due("grown", x.growth(1), 3 + 3 + 1);
    x = C.desk("");
    C.due("of no blocks", x.growth(0) + x.growth(1) + x.growth(2) + x.growth(3), 0);
  }

  private static void growth() {
    C.says("What 0 SIZE, 1 GROWN, 2 SPLITS of all TRACES, 3 JOINED BLOCKS (bits). NONE for others.");
    TraceDesk x = C.desk(THREE);
    C.due("splits", x.growth(2), 3);
    for (int what : new int[] {MIN, -1, 4, 5, MAX}) {
      C.due("growth(" + what + ")", x.growth(what), -1);
    }
    x = C.desk("block x; if a<1 goto y else z; block y; goto y; block z; if a<1 goto w else x; block w; stop;");
    C.due("traces", Rows.traces(x), "0 1 | 2 3");
    C.due("splits of both", x.growth(2), 2);
  }

  private static void saved() {
    C.says("SAVED; NONE: no such KIND.");
    TraceDesk x = C.desk("block x; a=1*1; b=1*1; c=1*1; stop;");
    for (int kind = 0; kind < 4; kind++) {
      C.due("nothing begun: saved(" + kind + ")", x.saved(kind), 0);
    }
    x.run();
    C.due("length", x.trace(0, 2), 3);
    int[] due = {0, 1, 0, 0};
    for (int kind = 0; kind < 4; kind++) {
      C.due("saved(" + kind + ")", x.saved(kind), due[kind]);
    }
    for (int kind : new int[] {MIN, -1, 4, 5, MAX}) {
      C.due("saved(" + kind + ")", x.saved(kind), -1);
    }
    C.due("nothing happens", x.trace(0, 2) * 10 + x.kind(1, 0), 31);
  }

  private static void savedByFourAtMost() {
    C.says("with one UNIT more of it (4 at most)");
    TraceDesk x = C.desk("units sums 4 1; units hard 3 1; block x; a=1+0; b=1+0; c=1+0; d=1+0; e=1+0; stop;");
    x.run();
    C.due("five by four, no fifth unit", x.trace(0, 2) * 10 + x.saved(0), 20);
    x = C.desk("units sums 3 1; block x; a=1+0; b=1+0; c=1+0; d=1+0; stop;");
    x.run();
    C.due("four by three, then by four", x.trace(0, 2) * 10 + x.saved(0), 21);
    x.units(0, 1, 1);
    C.due("four by one, then by two", x.trace(0, 2) * 10 + x.saved(0), 42);
  }

  private static void savedBelowZero() {
    C.says("by how much its LENGTH would be less (below 0, if it would be more)");
    String text = "units sums 1 4;units hard 2 1;units cells 1 1;units jumps 1 5;block x;c=at 1;a=at 1;c=a+f;a=at 1;"
        + "at 1=d;b=f*3;goto y;block y;e=b+e;f=e-2;b=c*c;at 1=3;e=c+a;d=d+1;stop;";
    TraceDesk x = C.desk(text);
    x.run();
    C.due("length", x.trace(0, 2), 7);
    C.due("saved(2)", x.saved(2), -1);
    x.run();
    C.due("begun twice", x.saved(2), -2);
    x.units(2, 2, 1);
    C.due("it would be more", x.trace(0, 2), 8);
  }

  private static void savedTimesBegun() {
    C.says("times how often its first BLOCK was begun, added");
    TraceDesk x = C.desk("block x; goto y; block y; a=a+1; b=b+1; c=c+1; goto z; block z; if a<2 goto y else w;"
        + "block w; d=d+1; e=e+1; stop;");
    C.due("run()", x.run(), 0);
    C.due("traces", Rows.traces(x), "0 1 2 | 3");
    C.due("begun", x.block(0, 2) * 100 + x.block(1, 2) * 10 + x.block(3, 2), 121);
    C.due("lengths", x.trace(0, 2) * 10 + x.trace(1, 2), 32);
    C.due("one of each trace, each begun once", x.saved(0), 2);
    x.set(0, 0);
    x.run();
    C.due("begun", x.block(0, 2) * 100 + x.block(1, 2) * 10 + x.block(3, 2), 242);
    C.due("traces", Rows.traces(x), "0 1 2 | 3");
    C.due("each begun twice", x.saved(0), 4);
    x = C.desk("block x; a=a+1; if a<3 goto x else y; block y; b=1+0; c=1+0; stop;");
    // x goes to itself twice, once, and no more
    for (int a = 0; a < 5; a++) {
      x.set(0, a);
      C.due("traces", Rows.traces(x), a < 4 ? "0 | 1" : "0 1");
      C.due("saved of y", x.saved(0), a < 4 ? a : 0);
      x.run();
    }
  }
}
