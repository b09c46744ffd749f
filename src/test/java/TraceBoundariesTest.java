/** What is live, traces, items, what needs what, the list: each sentence that names a boundary, by a test of its own. */
public final class TraceBoundariesTest {
  private static final Checks C = new Checks();
  private static final int MIN = Integer.MIN_VALUE;
  private static final int MAX = Integer.MAX_VALUE;
  private static final int[] NEITHER = {MIN, -2, -1, MAX};

  /** Renames in two splits' reach; all is wanted at z. */
  private static final String RENAMES = "block x; a=a+1; if f<1 goto y else z; block y; a=b+c; d=a+1; at a=a; e=at a;"
      + "if a<5 goto w else z; block w; a=a+a; b=1+0; if a<b goto x else y; block z; stop;";
  /** At z register a alone is wanted, at v register b alone. */
  private static final String WANTS = "block x; if f<1 goto y else z; block y; b=5+0; if f<2 goto w else v;"
      + "block w; a=1+0; b=1+0; c=1+0; stop; block z; at 0=a; goto u; block v; at 0=b; goto u; block u; goto u;";
  /** p leads to y by way 1; y is begun most, by p, q and r once each. */
  private static final String LIKELY = "block p; if a<1 goto z else y; block y; b=b+1; if b<2 goto q else u; block z; stop;"
      + "block q; goto y; block u; if b<3 goto r else w; block r; goto y; block w; stop;";
  /** x goes to t, and y does, oftener if b begins at 0. */
  private static final String OFTENER = "block x; c=1/d; goto t; block t; b=b+1; if b<3 goto y else z; block y; goto t;"
      + "block z; stop;";
  /** Nothing is wanted at z. */
  private static final String GUESSES = "block x; a=at 1; if a<5 goto y else z; block y; b=b+1; c=c+1; d=d+1; e=e+1; stop;"
      + "block z; goto z;";
  /** One unit for three sums, the split in the first one's cycle; e stands behind it. */
  private static final String COPIES = "block x; a=d+1; b=d+1; c=d+1; if d<5 goto y else z; block y; e=1+0; stop;"
      + "block z; goto z;";

  private TraceBoundariesTest() { }

  public static void main(String[] args) {
    readAheadOfBeingSet();
    bySomeRowOfWays();
    stopReadsAll();
    eachBlockInOneTrace();
    begunMost();
    begunAlike();
    fourAtTheEnd();
    fourAtTheBeginning();
    behindTheLast();
    wayGoneMost();
    inAnotherTrace();
    inThisTrace();
    comeToOftener();
    likelyWayToTheFirst();
    alikeWaysToTheFirst();
    wayZeroToTheFirst();
    mostOfItsOwnEnd();
    itemsBetweenBlocks();
    splits();
    exits();
    exitReads();
    nothingRenamed();
    renamedBehindSplits();
    renamedIfWanted();
    sixRenamed();
    freshFromSixOn();
    readsFresh();
    copyBehindTheLine();
    needsOfTheLastOne();
    needsOfReaders();
    needsOfSetters();
    needsOfCells();
    needsOfSplits();
    needsOfTheExit();
    greatestOfNeeds();
    noNeeds();
    heights();
    heightFirst();
    lowestOfAlikeOnes();
    unitsOfACycle();
    soManyCyclesAhead();
    nextCycle();
    lengths();
    floors();
    guesses();
    copiesAreNoGuesses();
    copiedItems();
    plains();
    fullTrace();
    askedAgain();
    askedTraces();
    askedMembers();
    askedItems();
    askedNeeds();
    askedCopied();
    askedBusy();
    C.end("TraceBoundariesTest");
  }

  private static void live(String text, int... due) {
    TraceDesk x = C.desk(text);
    for (int b = 0; b < due.length; b++) {
      C.due("live of " + b + " in " + text, x.block(b, 5), due[b]);
    }
  }

  private static void traces(String text, String due) {
    C.due("traces of " + text, Rows.traces(C.desk(text)), due);
  }

  private static void readAheadOfBeingSet() {
    C.says("REGISTERS that may be read, by some row of WAYS from its beginning, ahead of being set");
    live("block x; a=1+0; b=a+0; goto x;", 0);
    live("block x; b=a+0; a=1+0; goto x;", 1);
    live("block x; a=a+1; goto x;", 1);
    live("block x; a=at a; goto x;", 1);
    live("block x; a=at 1; b=a+1; goto x;", 0);
    live("block x; at a=b; goto x;", 3);
    live("block x; at 0=1; goto x;", 0);
    live("block x; a=1+0; if a<b goto x else x;", 2);
    live("block x; if c<c goto x else x;", 4);
    live("block x; a=1/f; goto x;", 32);
    live("block x; b=1+c; goto y; block y; a=b+d; goto y;", 12, 10);
  }

  private static void bySomeRowOfWays() {
    C.says("by some row of WAYS from its beginning");
    live("block x; if a<1 goto y else z; block y; a=b+0; goto y; block z; a=c+0; goto z;", 7, 2, 4);
    live("block x; goto y; block y; a=b+0; b=1+0; goto x;", 2, 2);
    live("block g; goto i; block h; a=f+0; goto h; block i; goto k; block j; goto h; block k; goto m; block l; goto j;"
        + "block m; goto n; block n; goto l;", 32, 32, 32, 32, 32, 32, 32, 32);
    live("block x; goto y; block y; f=1+0; goto z; block z; a=f+e; goto z;", 16, 16, 48);
    live("block x; c=a+0; goto y; block y; c=b+0; goto x;", 3, 3);
    live("block x; c=a+0; goto y; block y; c=b+0; goto z; block z; c=d+0; goto x;", 11, 11, 11);
    live("block x; if a<1 goto x else x; block y; a=f+0; goto x;", 1, 32);
  }

  private static void stopReadsAll() {
    C.says("a stop reads all");
    live("block x; stop;", 63);
    live("block x; a=1+0; f=2+0; stop;", 30);
    live("block x; goto y; block y; stop;", 63, 63);
    live("block x; b=1+0; if a<1 goto x else y; block y; stop;", 61, 63);
    live("block x; a=1+0; b=1+0; c=1+0; d=1+0; e=1+0; f=1+0; stop;", 0);
  }

  private static void eachBlockInOneTrace() {
    C.says("TRACES: each BLOCK is in one; they are chosen one behind the other till none is left (TRACE 0 first).");
    String text = "block g; stop; block h; stop; block i; stop; block j; stop; block k; stop; block l; stop; block m; stop;"
        + "block n; stop;";
    traces(text, "0 | 1 | 2 | 3 | 4 | 5 | 6 | 7");
    TraceDesk x = C.desk(text);
    for (int b = 0; b < 8; b++) {
      C.due("trace of " + b, x.block(b, 6), b);
      C.due("place of " + b, x.block(b, 7), 0);
    }
    x = C.desk(OFTENER);
    C.due("traces", Rows.traces(x), "0 1 2 | 3");
    C.due("trace, place of y", x.block(2, 6) * 10 + x.block(2, 7), 2);
    C.due("trace, place of z", x.block(3, 6) * 10 + x.block(3, 7), 10);
  }

  private static void begunMost() {
    C.says("Each begins as that BLOCK, of those in none, that was begun most, of alike ones the lowest.");
    String text = "block x; goto y; block y; a=a+1; if a<5 goto y else z; block z; stop;";
    traces(text, "0 1 | 2");
    TraceDesk x = C.desk(text);
    x.run();
    C.due("begun 1, 5, 1", Rows.traces(x), "1 | 0 | 2");
  }

  private static void begunAlike() {
    C.says("that was begun most, of alike ones the lowest");
    TraceDesk x = C.desk("block x; goto y; block y; a=a+1; goto z; block z; if a<2 goto y else w; block w; stop;");
    x.run();
    C.due("y begun 2, z 2", x.block(1, 2) * 10 + x.block(2, 2), 22);
    C.due("y, not z", Rows.traces(x), "0 1 2 | 3");
    traces("block x; goto x; block y; goto y; block z; goto z;", "0 | 1 | 2");
  }

  private static void fourAtTheEnd() {
    C.says("It grows at its end, again and again, 4 BLOCKS at most");
    traces("block g; goto h; block h; goto i; block i; stop;", "0 1 2");
    traces("block g; goto h; block h; goto i; block i; goto j; block j; stop;", "0 1 2 3");
    traces("block g; goto h; block h; goto i; block i; goto j; block j; goto k; block k; stop;", "0 1 2 3 | 4");
    traces("block g; goto h; block h; goto i; block i; goto j; block j; goto k; block k; goto l; block l; goto m; block m;"
        + "goto n; block n; stop;", "0 1 2 3 | 4 5 6 7");
  }

  private static void fourAtTheBeginning() {
    C.says("Then it grows at its beginning, again and again, 4 at most in all");
    traces("block g; stop; block h; goto g; block i; goto h; block j; goto i;", "3 2 1 0");
    traces("block g; stop; block h; goto g; block i; goto h; block j; goto i; block k; goto j;", "3 2 1 0 | 4");
    traces("block g; goto h; block h; stop; block i; goto g; block j; goto i; block k; goto j;", "3 2 0 1 | 4");
    traces("block g; goto h; block h; goto i; block i; goto j; block j; stop; block k; goto g;", "0 1 2 3 | 4");
    traces("block g; goto h; block h; goto i; block i; stop; block k; goto g; block l; goto k;", "3 0 1 2 | 4");
  }

  private static void behindTheLast() {
    C.says("the BLOCK to which it leads comes behind");
    TraceDesk x = C.desk("block x; b=b+1; if b<4 goto y else z; block y; c=c+1; if c<3 goto y else x; block z; stop;");
    C.due("run()", x.run(), 0);
    C.due("y was begun most", x.block(1, 2) * 10 + x.block(0, 2), 54);
    C.due("y goes to x, block 0, by way 1", Rows.traces(x), "1 0 | 2");
    x = C.desk("block x; b=b+1; if b<4 goto y else z; block y; c=c+1; if c<3 goto y else v; block z; stop; block v; goto x;");
    C.due("run()", x.run(), 0);
    C.due("y, v, and x by a goto", Rows.traces(x), "1 3 0 | 2");
  }

  private static void wayGoneMost() {
    C.says("of the WAYS of its last BLOCK's END the one gone most, of alike ones WAY 0: the BLOCK to which it leads comes behind");
    TraceDesk x = C.desk("block x; if a<1 goto z else y; block y; stop; block z; stop;");
    C.due("none gone", Rows.traces(x), "0 2 | 1");
    x.set(0, 1);
    x.run();
    C.due("way 1 gone once", Rows.traces(x), "0 1 | 2");
    x.set(0, 0);
    x.run();
    C.due("each gone once", Rows.traces(x), "0 2 | 1");
    x.set(0, 1);
    x.run();
    C.due("way 1 gone twice", Rows.traces(x), "0 1 | 2");
    x.clear();
    C.due("none gone", Rows.traces(x), "0 2 | 1");
  }

  private static void inAnotherTrace() {
    C.says("if that is in no TRACE, nor in this one, and by no other WAY");
    TraceDesk x = C.desk("block x; goto y; block y; a=a+1; if a<5 goto y else z; block z; stop;");
    x.run();
    C.due("y is in one when x begins", Rows.members(x, 1), "0");
    traces("block g; goto h; block h; goto i; block i; goto j; block j; goto k; block k; goto g;", "0 1 2 3 | 4");
  }

  private static void inThisTrace() {
    C.says("if that is in no TRACE, nor in this one");
    traces("block x; goto y; block y; goto x;", "0 1");
    traces("block x; goto x;", "0");
    traces("block x; goto y; block y; goto y;", "0 1");
    traces("block x; goto y; block y; goto z; block z; goto y;", "0 1 2");
  }

  private static void comeToOftener() {
    C.says("by no other WAY of any END it was come to oftener than by this");
    for (int b = 0; b < 2; b++) {
      TraceDesk x = C.desk(OFTENER);
      for (int n = 0; n < 3; n++) {
        C.due("x faults", x.run(), 1);
      }
      x.set(3, 1);
      x.set(1, b);
      C.due("run()", x.run(), 0);
      C.due("x to t", x.gone(0, 0), 1);
      C.due("y to t", x.gone(2, 0), 2 - b);
      C.due("traces", Rows.traces(x), b == 0 ? "0 | 1 2 | 3" : "0 1 2 | 3");
    }
  }

  private static void likelyWayToTheFirst() {
    C.says("of the WAYS of all ENDS that lead to its first BLOCK the one gone most");
    TraceDesk x = C.desk("block m; a=a+1; if a<6 goto s else t; block s; if a<3 goto p else q; block p; goto m;"
        + "block q; goto m; block t; stop;");
    x.run();
    C.due("p, q to m", x.gone(2, 0) * 10 + x.gone(3, 0), 23);
    C.due("q, which is in it already, not p", Rows.traces(x), "0 1 3 | 2 | 4");
    x = C.desk("block x; if a<1 goto p else q; block p; goto y; block q; goto y; block y; b=b+1; if b<2 goto y else z;"
        + "block z; stop;");
    x.set(0, 1);
    x.run();
    C.due("p, q to y", x.gone(1, 0) * 10 + x.gone(2, 0), 1);
    C.due("q, not p", Rows.traces(x), "0 2 3 | 4 | 1");
  }

  private static void alikeWaysToTheFirst() {
    C.says("of alike ones that of the lowest BLOCK, then WAY 0: the BLOCK from which it leads comes ahead");
    traces("block y; stop; block p; goto y; block q; goto y;", "1 0 | 2");
    traces("block y; stop; block p; stop; block q; goto y; block r; goto y;", "2 0 | 1 | 3");
  }

  private static void wayZeroToTheFirst() {
    C.says("then WAY 0: the BLOCK from which it leads comes ahead");
    traces("block y; stop; block x; if a<1 goto y else y;", "1 0");
    traces("block y; stop; block x; if a<1 goto y else x;", "1 0");
  }

  private static void mostOfItsOwnEnd() {
    C.says("if that is in no TRACE, nor in this one, and that is, of its END's WAYS, the one gone most, of alike ones WAY 0");
    traces("block y; stop; block p; if a<1 goto z else y; block z; stop;", "0 | 1 2");
    TraceDesk x = C.desk(LIKELY);
    x.set(0, 1);
    C.due("run()", x.run(), 0);
    C.due("p goes to y alone", x.gone(0, 0) * 10 + x.gone(0, 1), 1);
    C.due("p comes ahead of y", Rows.traces(x), "0 1 4 5 | 3 | 6 | 2");
    x.set(0, 0);
    C.due("run()", x.run(), 0);
    C.due("p goes to z as often", x.gone(0, 0) * 10 + x.gone(0, 1), 11);
    C.due("it does not come ahead of y", Rows.traces(x), "1 4 5 | 0 2 | 3 | 6");
  }

  private static void itemsBetweenBlocks() {
    C.says("but between two BLOCKS of it a goto, an if both WAYS of which lead to the next one, are no ITEM");
    TraceDesk x = C.desk("block x; a=1+0; goto y; block y; b=1+0; if a<1 goto z else z; block z; c=1+0; stop;");
    C.due("traces", Rows.traces(x), "0 1 2");
    C.due("sorts", Rows.items(x, 0, 0), "0 0 0 3");
    C.due("blocks", Rows.items(x, 0, 2), "0 1 2 2");
    C.due("splits", x.trace(0, 5), 0);
    x = C.desk("block x; goto y; block y; if a<1 goto z else z; block z; stop;");
    C.due("the exit alone", Rows.items(x, 0, 0), "3");
  }

  private static void splits() {
    C.says("any other if there is a SPLIT, its OFF WAY the one that does not lead to the next one");
    TraceDesk x = C.desk("block x; a=a+1; if a<5 goto x else y; block y; stop;");
    x.set(0, 4);
    x.run();
    C.due("traces", Rows.traces(x), "0 1");
    C.due("sorts", Rows.items(x, 0, 0), "0 2 3");
    C.due("off by way 0, to itself", Rows.items(x, 0, 8), "-2 0 -2");
    x = C.desk("block x; if a<1 goto y else z; block y; if a<2 goto w else x; block w; goto w; block z; stop;");
    C.due("traces", Rows.traces(x), "0 1 2 | 3");
    C.due("sorts", Rows.items(x, 0, 0), "2 2 3");
    C.due("off by way 1", Rows.items(x, 0, 8), "3 0 -2");
    C.due("splits", x.trace(0, 5), 2);
  }

  private static void exits() {
    C.says("The last END is the EXIT.");
    for (String end : new String[] {"goto x;", "stop;", "if a<1 goto x else x;", "if a<1 goto x else y;"}) {
      TraceDesk x = C.desk("block x; " + end + "block y; stop;");
      int size = x.trace(0, 1);
      C.due("the exit of " + end, x.item(0, size - 1, 0), 3);
      C.due("its kind", x.item(0, size - 1, 3), 3);
      C.due("it sets none", x.item(0, size - 1, 5), -2);
      C.due("it has no off", x.item(0, size - 1, 8), -2);
      C.due("it is no guess", x.item(0, size - 1, 6), 0);
      C.due("splits", x.trace(0, 5), 0);
    }
  }

  private static void exitReads() {
    C.says("(For NEEDS a SPLIT, an EXIT reads what its if looks at; the EXIT of a goto, a stop reads nothing.)");
    C.due("an if", C.desk("block x; a=1*2; if a<1 goto x else x;").needs(0, 0, 1), 3);
    C.due("an if's value", C.desk("block x; a=1*2; if b<a goto x else x;").needs(0, 0, 1), 3);
    C.due("an if that looks elsewhere", C.desk("block x; a=1*2; if b<c goto x else x;").needs(0, 0, 1), 0);
    C.due("a goto", C.desk("block x; a=1*2; goto x;").needs(0, 0, 1), 0);
    C.due("a stop", C.desk("block x; a=1*2; stop;").needs(0, 0, 1), 0);
    C.due("length", C.desk("block x; a=1*2; stop;").trace(0, 2), 1);
    TraceDesk x = C.desk("block x; a=1*2; b=1*2; if a<b goto y else x; block y; stop;");
    C.due("a split's register", x.needs(0, 0, 2), 3);
    C.due("a split's value", x.needs(0, 1, 2), 3);
  }

  private static void nothingRenamed() {
    C.says("RENAMED, with renaming on: LINES, in order, 6 at most");
    TraceDesk x = C.desk(RENAMES);
    x.rename(false);
    C.due("sorts", Rows.items(x, 0, 0), "0 2 0 0 0 0 2 0 0 3");
    C.due("sets", Rows.items(x, 0, 5), "0 -2 0 3 -2 4 -2 0 1 -2");
    C.due("renamed", x.trace(0, 6), 0);
    x.rename(true);
    C.due("renamed", x.trace(0, 6), 5);
  }

  private static void renamedBehindSplits() {
    C.says("that set a REGISTER, behind a SPLIT at least");
    TraceDesk x = C.desk(RENAMES);
    C.due("traces", Rows.traces(x), "0 1 2 | 3");
    C.due("sorts", Rows.items(x, 0, 0), "0 2 0 1 0 1 0 0 1 2 0 1 0 1 3");
    C.due("sets: the first line stands ahead of all splits", Rows.items(x, 0, 5), "0 -2 6 0 7 3 -2 8 4 -2 9 0 10 1 -2");
    x = C.desk("block x; a=1+0; goto y; block y; a=2+0; stop;");
    C.due("no split", x.trace(0, 6), 0);
    x = C.desk("block x; a=1+0; if a<1 goto x else y; block y; stop;");
    C.due("an exit is no split", x.trace(0, 6), 0);
  }

  private static void renamedIfWanted() {
    C.says("which is LIVE at the BLOCK to which OFF leads of any SPLIT ahead of it");
    TraceDesk x = C.desk(WANTS);
    C.due("traces", Rows.members(x, 0), "0 1 2");
    C.due("live at z, v", x.block(3, 5) * 10 + x.block(4, 5), 12);
    C.due("b is not wanted at z, and v's split is not ahead yet", x.item(0, 1, 5), 1);
    C.due("sets", Rows.items(x, 0, 5), "-2 1 -2 6 0 7 1 2 -2");
    C.due("renamed", x.trace(0, 6), 2);
  }

  private static void sixRenamed() {
    C.says("LINES, in order, 6 at most");
    TraceDesk x = C.desk("block x; if f<1 goto y else z; block y; a=1+0; b=1+0; c=1+0; d=1+0; e=1+0; f=1+0; goto w;"
        + "block w; a=a+b; c=a+a; stop; block z; stop;");
    C.due("sets", Rows.items(x, 0, 5), "-2 6 0 7 1 8 2 9 3 10 4 11 5 0 2 -2");
    C.due("sorts", Rows.items(x, 0, 0), "2 0 1 0 1 0 1 0 1 0 1 0 1 0 0 3");
    C.due("renamed", x.trace(0, 6), 6);
    C.due("the seventh waits for the split", x.needs(0, 0, 13), 1);
    C.due("it reads a as renamed", x.needs(0, 1, 13), 1);
    C.due("and b", x.needs(0, 3, 13), 1);
  }

  private static void freshFromSixOn() {
    C.says("such a LINE sets a FRESH register (6, 7 and so on as they come) instead");
    TraceDesk x = C.desk("block x; if f<1 goto y else z; block y; a=1+0; a=2+0; stop; block z; if f<2 goto w else v;"
        + "block w; b=1+0; stop; block v; stop;");
    C.due("sets", Rows.items(x, 0, 5), "-2 6 0 7 0 -2");
    C.due("sets of the next trace", Rows.items(x, 1, 5), "-2 6 1 -2");
    C.due("renamed of all", x.count(10), 3);
  }

  private static void readsFresh() {
    C.says("what reads that REGISTER behind it reads FRESH, till a LINE sets that REGISTER (RENAMED or not)");
    TraceDesk x = C.desk(RENAMES);
    int[][] due = {{2, 4, 1}, {2, 6, 1}, {2, 7, 1}, {2, 9, 1}, {2, 10, 1}, {3, 4, -2}, {3, 9, -2}, {3, 10, -2}, {2, 14, 0},
      {10, 14, 1}, {12, 14, 1}, {11, 14, 0}, {0, 2, -2}};
    for (int[] row : due) {
      C.due("needs(0, " + row[0] + ", " + row[1] + ")", x.needs(0, row[0], row[1]), row[2]);
    }
    x = C.desk("block x; if f<1 goto y else z; block y; a=1+0; b=1+0; c=1+0; d=1+0; e=1+0; f=1+0; goto w;"
        + "block w; a=a+b; c=a+a; stop; block z; stop;");
    C.due("a LINE not renamed sets a", x.needs(0, 13, 14), 1);
    C.due("what stands behind it reads no FRESH", x.needs(0, 1, 14), -2);
    x = C.desk("block x; b=a+1; if f<1 goto y else z; block y; a=c+5; stop; block z; stop;");
    x.set(0, 7);
    C.due("what stands ahead reads none", Rows.left(x), "5 8 0 0 0 0");
    x.units(0, 2, 1);
    C.due("nor does it once it is laid anew", Rows.left(x), "5 8 0 0 0 0");
  }

  private static void copyBehindTheLine() {
    C.says("right behind the LINE comes an ITEM more, a COPY (KIND sums), that sets the REGISTER to FRESH");
    TraceDesk x = C.desk("block x; if f<1 goto y else z; block y; a=b*b; c=at 1; at 1=2; stop; block z; stop;");
    C.due("sorts", Rows.items(x, 0, 0), "2 0 1 0 1 0 3");
    C.due("kinds", Rows.items(x, 0, 3), "3 1 0 2 0 2 3");
    C.due("blocks", Rows.items(x, 0, 2), "0 1 1 1 1 1 1");
    C.due("sets", Rows.items(x, 0, 5), "-2 6 0 7 2 -2 -2");
    C.due("a COPY reads FRESH", x.needs(0, 1, 2), 3);
    C.due("a COPY reads FRESH", x.needs(0, 3, 4), 2);
    C.due("it waits for the split", x.needs(0, 0, 2), 1);
  }

  private static void needsOfTheLastOne() {
    C.says("i is the last one ahead of j that sets a register that j reads: LATENCY of i");
    TraceDesk x = C.desk("block x; a=1*1; a=1+1; b=a+a; c=b-a; at c=b; d=at c; stop;");
    C.due("not the last one", x.needs(0, 0, 2), -2);
    C.due("the last one", x.needs(0, 1, 2), 1);
    C.due("each of both that are read", x.needs(0, 1, 3) * 10 + x.needs(0, 2, 3), 11);
    C.due("a store's cell", x.needs(0, 3, 4), 1);
    C.due("a store's value", x.needs(0, 2, 4), 1);
    C.due("a load's cell", x.needs(0, 3, 5), 1);
    x.units(0, 1, 6);
    C.due("latency 6", x.needs(0, 1, 2), 6);
  }

  private static void needsOfReaders() {
    C.says("i reads a register that j sets: 0");
    C.due("a line", C.desk("block x; b=a*0; a=1+0; stop;").needs(0, 0, 1), 0);
    C.due("its other value", C.desk("block x; b=0*a; a=1+0; stop;").needs(0, 0, 1), 0);
    C.due("a load", C.desk("block x; b=at a; a=1+0; stop;").needs(0, 0, 1), 0);
    C.due("a store's cell", C.desk("block x; at a=1; a=1+0; stop;").needs(0, 0, 1), 0);
    C.due("a store's value", C.desk("block x; at 1=a; a=1+0; stop;").needs(0, 0, 1), 0);
    TraceDesk x = C.desk("block x; if b<a goto y else z; block y; a=1+0; b=1+0; c=1+0; stop; block z; goto z;");
    C.due("a split's value", x.needs(0, 0, 1), 0);
    C.due("a split's register", x.needs(0, 0, 2), 0);
    C.due("what it does not read", x.needs(0, 0, 3), -2);
  }

  private static void needsOfSetters() {
    C.says("both set one register: LATENCY of i less that of j and 1 more, 1 at least");
    TraceDesk x = C.desk("block x; a=1*1; a=1+1; a=1*1; a=at 1; a=2-1; stop;");
    C.due("3 and 1", x.needs(0, 0, 1), 3);
    C.due("1 and 3", x.needs(0, 1, 2), 1);
    C.due("3 and 2", x.needs(0, 2, 3), 2);
    C.due("3 and 3, others between", x.needs(0, 0, 2), 1);
    C.due("2 and 1", x.needs(0, 3, 4), 2);
    C.due("1 and 1", x.needs(0, 1, 4), 1);
    x.units(1, 1, 6);
    C.due("6 and 1", x.needs(0, 0, 1), 6);
    C.due("1 and 6", x.needs(0, 1, 2), 1);
    C.due("another register", C.desk("block x; a=1*1; b=1+1; stop;").needs(0, 0, 1), -2);
  }

  private static void needsOfCells() {
    C.says("i is a STORE, j a LOAD: LATENCY of i; i a LOAD, j a STORE: 0; both STORES: 1");
    TraceDesk x = C.desk("units cells 1 5; block x; a=at 1; at 2=1; b=at 3; at 4=1; goto y; block y; c=at 5; d=at 6; at 7=1; stop;");
    int[][] due = {{0, 1, 0}, {0, 2, -2}, {1, 2, 5}, {1, 3, 1}, {2, 3, 0}, {1, 4, 5}, {4, 5, -2}, {1, 6, 1}, {5, 6, 0}};
    for (int[] row : due) {
      C.due("needs(0, " + row[0] + ", " + row[1] + ")", x.needs(0, row[0], row[1]), row[2]);
    }
  }

  private static void needsOfSplits() {
    C.says("i is a SPLIT, j a SPLIT, the EXIT, a STORE, or sets a REGISTER (0 .. 5) that is LIVE at the BLOCK to which OFF of i leads: 1");
    TraceDesk x = C.desk(WANTS);
    // 0 split to z, 1 b, 2 split to v, 3 a renamed, 4 its copy, 5 b renamed, 6 its copy, 7 c, 8 exit
    int[][] due = {{0, 1, -2}, {0, 2, 1}, {0, 3, -2}, {0, 4, 1}, {2, 4, -2}, {0, 5, -2}, {0, 6, -2}, {2, 6, 1}, {0, 7, -2},
      {2, 7, -2}, {0, 8, 1}, {2, 8, 1}, {1, 2, -2}};
    for (int[] row : due) {
      C.due("needs(0, " + row[0] + ", " + row[1] + ")", x.needs(0, row[0], row[1]), row[2]);
    }
    x = C.desk("units jumps 4 6; block x; if a<1 goto y else z; block y; at 1=2; b=at 1; f=1+0; stop; block z; at 0=f; goto z;");
    x.rename(false);
    C.due("a store", x.needs(0, 0, 1), 1);
    C.due("a load of what is not wanted", x.needs(0, 0, 2), -2);
    C.due("what is wanted, not renamed", x.needs(0, 0, 3), 1);
    C.due("the exit, whatever the latency", x.needs(0, 0, 4), 1);
  }

  private static void needsOfTheExit() {
    C.says("j is the EXIT: 0");
    TraceDesk x = C.desk("block x; a=1+0; b=1*1; c=at 1; at 1=1; goto x;");
    for (int i = 0; i < 4; i++) {
      C.due("needs(0, " + i + ", 4)", x.needs(0, i, 4), 0);
    }
  }

  private static void greatestOfNeeds() {
    C.says("how many cycles later than i it must be, the greatest of these that hold");
    C.due("read and set: 3, 3", C.desk("block x; a=1*1; a=a+1; stop;").needs(0, 0, 1), 3);
    C.due("read and set: 2, 1", C.desk("block x; a=at 1; a=a*1; stop;").needs(0, 0, 1), 2);
    C.due("set and read by i: 1, 0", C.desk("block x; a=a+1; a=1+1; stop;").needs(0, 0, 1), 1);
    C.due("a load, a store that reads it: 0, 2", C.desk("block x; a=at 1; at a=1; stop;").needs(0, 0, 1), 2);
    C.due("the exit reads it: 0, 3", C.desk("block x; a=1*1; if a<1 goto x else x;").needs(0, 0, 1), 3);
    TraceDesk x = C.desk("block x; if a<1 goto y else z; block y; a=1+0; stop; block z; stop;");
    x.rename(false);
    C.due("read by a split and wanted: 0, 1", x.needs(0, 0, 1), 1);
    C.due("a store, a load whose cell it read: 0, 2",
        C.desk("block x; at a=1; a=at 1; stop;").needs(0, 0, 1), 2);
  }

  private static void noNeeds() {
    C.says("-2: none of these holds; NONE: no such ones, i not ahead");
    TraceDesk x = C.desk("block x; a=1+0; b=2+0; c=d*e; f=at 1; stop;");
    for (int i = 0; i < 4; i++) {
      for (int j = 0; j < 4; j++) {
        C.due("needs(0, " + i + ", " + j + ")", x.needs(0, i, j), i < j ? -2 : -1);
      }
    }
  }

  private static void heights() {
    C.says("HEIGHT of an ITEM: 0 if none NEEDS it; else the greatest of what one NEEDS and that one's HEIGHT, added.");
    TraceDesk x = C.desk("block x; a=1*1; b=a*1; c=b+1; if c<1 goto x else x;");
    C.due("heights", Rows.items(x, 0, 4), "7 4 1 0");
    x = C.desk("block x; a=1+1; b=a+1; c=a*1; d=c+1; if b<d goto x else x;");
    C.due("the greatest of two", Rows.items(x, 0, 4), "5 1 4 1 0");
    x = C.desk("block x; b=a+0; a=1*0; if a<1 goto x else x;");
    C.due("over a need of 0", Rows.items(x, 0, 4), "3 3 0");
    C.due("an exit alone", Rows.items(C.desk("block x; stop;"), 0, 4), "0");
  }

  private static void heightFirst() {
    C.says("the one with most HEIGHT, of alike ones the lowest, is laid");
    TraceDesk x = C.desk("block x; a=1+0; b=1+0; c=b+1; d=c+1; if d<1 goto x else x;");
    C.due("heights", Rows.items(x, 0, 4), "0 3 2 1 0");
    C.due("cycles", Rows.items(x, 0, 1), "3 0 1 2 3");
  }

  private static void lowestOfAlikeOnes() {
    C.says("of alike ones the lowest, is laid");
    TraceDesk x = C.desk("block x; a=1+0; b=1+0; c=1+0; stop;");
    C.due("cycles", Rows.items(x, 0, 1), "0 1 2 2");
    x = C.desk("block x; a=1+0; b=1+0; c=a+b; d=1+0; if c<d goto x else x;");
    C.due("heights", Rows.items(x, 0, 4), "2 2 1 1 0");
    C.due("cycles", Rows.items(x, 0, 1), "0 1 2 3 4");
  }

  private static void unitsOfACycle() {
    C.says("of ITEMS not laid of which a UNIT of their KIND is free in it");
    String lines = "a=1+0; b=1+0; c=1+0; d=1+0; e=1+0;";
    String[] due = {"0 1 2 3 4 4", "0 0 1 1 2 2", "0 0 0 1 1 1", "0 0 0 0 1 1"};
    for (int many = 1; many <= 4; many++) {
      TraceDesk x = C.desk("units sums " + many + " 1; block x;" + lines + "stop;");
      C.due("cycles with " + many, Rows.items(x, 0, 1), due[many - 1]);
    }
    TraceDesk x = C.desk("block x; a=1*1; b=1*1; c=at 1; d=at 1; e=1+1; f=1+1; stop;");
    C.due("each kind for itself, free again in the next cycle", Rows.items(x, 0, 1), "0 1 0 1 0 1 1");
    x = C.desk("units jumps 1 1; block x; if a<1 goto y else z; block y; stop; block z; stop;");
    C.due("jumps", Rows.items(x, 0, 1), "0 1");
  }

  private static void soManyCyclesAhead() {
    C.says("all that they NEED is laid so many cycles ahead");
    for (int latency = 1; latency <= 6; latency++) {
      TraceDesk x = C.desk("units sums 2 " + latency + "; block x; a=1+0; b=a+0; c=b+a; stop;");
      C.due("cycles", Rows.items(x, 0, 1), "0 " + latency + " " + 2 * latency + " " + 2 * latency);
    }
    TraceDesk x = C.desk("units sums 2 1; block x; b=a+0; a=1+0; stop;");
    C.due("a need of 0: the same cycle", Rows.items(x, 0, 1), "0 0 0");
    x = C.desk("units sums 2 1; block x; b=a+0; a=1+0; if a<1 goto x else x;");
    C.due("the exit awaits the later", Rows.items(x, 0, 1), "0 0 1");
  }

  private static void nextCycle() {
    C.says("if there is none, the next cycle");
    TraceDesk x = C.desk("units hard 4 6; block x; a=1*1; b=a*1; c=1*1; stop;");
    C.due("cycles", Rows.items(x, 0, 1), "0 6 0 6");
    C.due("nothing between", x.busy(0, 3, 1) + x.busy(0, 5, 1), 0);
    C.due("length", x.trace(0, 2), 7);
  }

  private static void lengths() {
    C.says("LENGTH: the EXIT's cycle and 1. PATH: the greatest HEIGHT and 1");
    TraceDesk x = C.desk("block x; stop;");
    C.due("length, path of an exit alone", x.trace(0, 2) * 10 + x.trace(0, 4), 11);
    x = C.desk("block x; a=1*1; b=a*1; c=b+1; if c<1 goto x else x;");
    C.due("length, path", x.trace(0, 2) * 10 + x.trace(0, 4), 88);
    x = C.desk("block x; a=1+0; b=1+0; c=1+0; stop;");
    C.due("length, path", x.trace(0, 2) * 10 + x.trace(0, 4), 31);
  }

  private static void floors() {
    C.says("FLOOR: PATH, or, if that is more, of any KIND its ITEMS by its UNITS, rounded up.");
    String five = "a=1+0; b=1+0; c=1+0; d=1+0; e=1+0;";
    int[] due = {5, 3, 2, 2};
    for (int many = 1; many <= 4; many++) {
      C.due("five sums by " + many, C.desk("units sums " + many + " 1; block x;" + five + "stop;").trace(0, 3), due[many - 1]);
      C.due("five hard by " + many, C.desk("units hard " + many + " 1; block x;" + five.replace('+', '*') + "stop;")
          .trace(0, 3), due[many - 1]);
      C.due("five cells by " + many, C.desk("units cells " + many + " 1; block x;" + five.replace("1+0", "at 1") + "stop;")
          .trace(0, 3), due[many - 1]);
    }
    C.due("four by two", C.desk("units sums 2 1; block x; a=1+0; b=1+0; c=1+0; d=1+0; stop;").trace(0, 3), 2);
    C.due("one by four", C.desk("units sums 4 1; block x; a=1+0; stop;").trace(0, 3), 1);
    C.due("path is more", C.desk("block x; a=1*1; b=1+1; if a<1 goto x else x;").trace(0, 3), 4);
    C.due("a copy is a sum too", C.desk("block x; if f<1 goto y else z; block y; a=1+0; b=1+0; stop; block z; stop;")
        .trace(0, 3), 4);
  }

  private static void guesses() {
    C.says("A GUESS: a LINE in a cycle no later than that of a SPLIT ahead of it.");
    TraceDesk x = C.desk(GUESSES);
    C.due("cycles", Rows.items(x, 0, 1), "0 2 0 1 2 3 3");
    C.due("guesses", Rows.items(x, 0, 6), "0 0 1 1 1 0 0");
    C.due("many", x.trace(0, 8), 3);
    C.due("none without a split", C.desk("block x; a=1+0; b=1+0; stop;").trace(0, 8), 0);
    x = C.desk("block x; a=1+0; if b<1 goto y else z; block y; stop; block z; stop;");
    C.due("a line ahead of the split is none", Rows.items(x, 0, 6), "0 0 0");
    C.due("though in its cycle", Rows.items(x, 0, 1), "0 0 1");
  }

  private static void copiesAreNoGuesses() {
    C.says("a LINE in a cycle no later than that of a SPLIT ahead of it");
    TraceDesk x = C.desk("block x; if f<1 goto y else z; block y; b=c*c; if b<2 goto w else v; block w; a=1+0; e=2+0; stop;"
        + "block z; at 0=a; goto u; block v; at 0=d; goto u; block u; goto u;");
    C.due("sorts", Rows.items(x, 0, 0), "2 0 2 0 1 0 3");
    C.due("cycles", Rows.items(x, 0, 1), "0 0 3 0 1 2 4");
    C.due("guesses, no copy among them; e by the later split", Rows.items(x, 0, 6), "0 1 0 1 0 1 0");
  }

  private static void copiedItems() {
    C.says("COPIED at a SPLIT: ITEMS ahead of it in later cycles than it.");
    TraceDesk x = C.desk(COPIES);
    C.due("cycles", Rows.items(x, 0, 1), "0 1 2 0 3 3");
    C.due("how many", Rows.items(x, 0, 7), "0 0 0 2 0 0");
    C.due("not the one in its own cycle", x.copied(0, 3, 0), 1);
    C.due("the next", x.copied(0, 3, 1), 2);
    C.due("none that stands behind it", x.copied(0, 3, 2), -1);
    C.due("added", x.trace(0, 9), 2);
    x.units(0, 4, 1);
    C.due("none", Rows.items(x, 0, 7), "0 0 0 0 0 0");
    C.due("none", x.copied(0, 3, 0), -1);
    x = C.desk("block x; a=d+1; b=d+1; if d<5 goto y else z; block y; c=d+1; if d<4 goto w else z; block w; stop; block z; goto z;");
    C.due("cycles", Rows.items(x, 0, 1), "0 1 0 2 1 2");
    C.due("at each split", Rows.items(x, 0, 7), "0 0 1 0 1 0");
    C.due("at the first", x.copied(0, 2, 0), 1);
    C.due("at the second", x.copied(0, 4, 0), 3);
    C.due("added", x.trace(0, 9), 2);
  }

  private static void plains() {
    C.says("PLAIN of a TRACE: LATENCIES of all its ITEMS that are no COPIES, added.");
    TraceDesk x = C.desk("units sums 1 2; units hard 1 5; units cells 1 6; units jumps 1 4;"
        + "block x; a=1+0; if a<1 goto y else z; block y; a=1*1; b=at 1; at 1=1; goto w; block w; stop; block z; stop;");
    C.due("renamed", x.trace(0, 6), 2);
    C.due("plain", x.trace(0, 7), 2 + 4 + 5 + 6 + 6 + 4);
    x.rename(false);
    C.due("plain", x.trace(0, 7), 2 + 4 + 5 + 6 + 6 + 4);
  }

  /** Four blocks of six lines, three splits, six copies: the most items that a trace can have. */
  private static void fullTrace() {
    C.says("It grows at its end, again and again, 4 BLOCKS at most");
    StringBuilder text = new StringBuilder();
    for (int b = 0; b < 8; b++) {
      text.append("block x").append("stuvwxyz".charAt(b)).append("; a=a+1; b=b*1; c=at 1; at 1=a; d=d+1; e=a/a;");
      text.append(b < 7 ? "if f<1 goto x" + "tuvwxyz".charAt(b) + (b < 6 ? " else xz;" : " else xs;") : "stop;");
    }
    TraceDesk x = C.desk(text.toString());
    C.due("traces", Rows.traces(x), "0 1 2 3 | 4 5 6 7");
    for (int t = 0; t < 2; t++) {
      C.due("items", x.trace(t, 1), 34);
      C.due("splits, renamed", x.trace(t, 5) * 10 + x.trace(t, 6), 36);
      C.due("the exit", x.item(t, 33, 0), 3);
      C.due("its cycle", x.item(t, 33, 1), x.trace(t, 2) - 1);
      C.due("no more", x.item(t, 34, 0), -1);
      C.due("the last line, the exit", x.needs(t, 32, 33), 0);
      C.due("the exit, what is none", x.needs(t, 33, 34), -1);
      C.due("the sixth that is renamed, a seventh that is not", x.item(t, 23, 5) * 10 + x.item(t, 27, 5), 110);
    }
    C.due("a fast run", x.fast(0) * 100 + x.fast(2) * 10 + x.fast(3), 82);
    C.due("left", Rows.left(x), "8 0 7 8 1 0");
    C.due("agrees()", x.agrees(), 1);
    x.set(5, 1);
    C.due("off", x.fast(0) * 10 + x.fast(4), 1);
    C.due("agrees()", x.agrees(), 1);
    for (int kind = 0; kind < 4; kind++) {
      C.due("nothing begun", x.saved(kind), 0);
    }
  }

  /** What was worked out for other counts, units, renaming does not show later. */
  private static void askedAgain() {
    C.says("TRACES: each BLOCK is in one");
    for (String text : new String[] {RENAMES, WANTS, LIKELY, OFTENER, GUESSES, COPIES}) {
      TraceDesk x = C.desk(text);
      String before = Rows.all(x);
      x.set(0, 1);
      x.set(3, 1);
      x.run();
      x.rename(false);
      x.units(0, 1, 6);
      x.units(1, 4, 6);
      Rows.traces(x);
      Rows.items(x, 0, 4);
      x.units(0, 1, 1);
      x.units(1, 1, 3);
      x.rename(true);
      x.clear();
      x.hold(0);
      TraceDesk y = C.desk(text);
      for (int r = 0; r < 6; r++) {
        y.set(r, x.reg(r));
      }
      for (int c = 0; c < 8; c++) {
        y.put(c, x.cell(c));
      }
      C.due("all, asked again, of " + text, Rows.all(x), Rows.all(y));
      C.due("ahead", before.isEmpty(), false);
    }
  }

  private static void askedTraces() {
    C.says("8 GUESSES, 9 COPIED at all SPLITS, added. NONE for others.");
    TraceDesk x = C.desk(COPIES);
    // blocks, items, length, floor, path, splits, renamed, plain, guesses, copied
    int[] due = {2, 6, 4, 4, 2, 1, 0, 6, 0, 2};
    int[] due1 = {1, 1, 1, 1, 1, 0, 0, 1, 0, 0};
    for (int what = 0; what < 10; what++) {
      C.due("trace(0, " + what + ")", x.trace(0, what), due[what]);
      C.due("trace(1, " + what + ")", x.trace(1, what), due1[what]);
    }
    for (int what = 0; what < 10; what++) {
      C.due("trace(1, " + what + ") is told", x.trace(1, what) >= 0, true);
      C.due("trace(2, " + what + ")", x.trace(2, what), -1);
      C.due("trace(-1, " + what + ")", x.trace(-1, what), -1);
      C.due("trace(MAX, " + what + ")", x.trace(MAX, what), -1);
      C.due("trace(MIN, " + what + ")", x.trace(MIN, what), -1);
    }
    for (int what : new int[] {MIN, -1, 10, 11, MAX}) {
      C.due("trace(0, " + what + ")", x.trace(0, what), -1);
    }
    C.says("How many TRACES.");
    C.due("traces()", x.traces(), 2);
    C.due("traces() of none", C.desk("units sums 1 1;").traces(), 0);
  }

  private static void askedMembers() {
    C.says("The i-th BLOCK of a TRACE; NONE: no such ones.");
    TraceDesk x = C.desk("block g; goto h; block h; goto i; block i; goto j; block j; goto k; block k; stop;");
    for (int i = 0; i < 4; i++) {
      C.due("member(0, " + i + ")", x.member(0, i), i);
    }
    C.due("member(0, 4)", x.member(0, 4), -1);
    C.due("member(1, 0)", x.member(1, 0), 4);
    C.due("member(1, 1)", x.member(1, 1), -1);
    C.due("member(2, 0)", x.member(2, 0), -1);
    for (int no : NEITHER) {
      C.due("member(0, " + no + ")", x.member(0, no), -1);
      C.due("member(" + no + ", 0)", x.member(no, 0), -1);
    }
    C.due("member of none", new TraceDesk().member(0, 0), -1);
  }

  private static void askedItems() {
    C.says("7 how many are COPIED (no SPLIT: 0), 8 the BLOCK to which OFF leads (no SPLIT: -2). NONE for others.");
    TraceDesk x = C.desk(COPIES);
    for (int what = 0; what < 9; what++) {
      C.due("item(0, 5, " + what + ") is told", x.item(0, 5, what) != -1, true);
      C.due("item(0, 6, " + what + ")", x.item(0, 6, what), -1);
      C.due("item(0, 34, " + what + ")", x.item(0, 34, what), -1);
      C.due("item(1, 1, " + what + ")", x.item(1, 1, what), -1);
      C.due("item(2, 0, " + what + ")", x.item(2, 0, what), -1);
      for (int no : NEITHER) {
        C.due("item(0, " + no + ", " + what + ")", x.item(0, no, what), -1);
        C.due("item(" + no + ", 0, " + what + ")", x.item(no, 0, what), -1);
      }
    }
    for (int what : new int[] {MIN, -1, 9, 10, MAX}) {
      C.due("item(0, 0, " + what + ")", x.item(0, 0, what), -1);
    }
    C.says("5 the register that it sets (-2: none)");
    C.due("a store sets none", C.desk("block x; at 1=a; stop;").item(0, 0, 5), -2);
  }

  private static void askedNeeds() {
    C.says("NEEDS of an ITEM j of an ITEM i ahead of it; -2: none of these holds; NONE: no such ones, i not ahead.");
    TraceDesk x = C.desk(COPIES);
    C.due("needs(0, 0, 5)", x.needs(0, 0, 5), 0);
    C.due("needs(0, 4, 5)", x.needs(0, 4, 5), 0);
    C.due("needs(0, 0, 1)", x.needs(0, 0, 1), -2);
    C.due("i is j", x.needs(0, 5, 5), -1);
    C.due("i is behind", x.needs(0, 5, 0), -1);
    C.due("j is none", x.needs(0, 0, 6), -1);
    C.due("both are none", x.needs(0, 6, 7), -1);
    C.due("no such trace", x.needs(2, 0, 1), -1);
    C.due("one item alone", x.needs(1, 0, 1), -1);
    for (int no : NEITHER) {
      C.due("needs(0, " + no + ", 5)", x.needs(0, no, 5), -1);
      C.due("needs(0, 0, " + no + ")", x.needs(0, 0, no), -1);
      C.due("needs(" + no + ", 0, 1)", x.needs(no, 0, 1), -1);
    }
  }

  private static void askedCopied() {
    C.says("The k-th ITEM that is COPIED at a SPLIT; NONE: no such ones.");
    TraceDesk x = C.desk(COPIES);
    C.due("copied(0, 3, 0)", x.copied(0, 3, 0), 1);
    C.due("copied(0, 3, 1)", x.copied(0, 3, 1), 2);
    C.due("copied(0, 3, 2)", x.copied(0, 3, 2), -1);
    C.due("no split", x.copied(0, 2, 0), -1);
    C.due("a line in the first cycle has later ones behind it", x.copied(0, 0, 0), -1);
    C.due("an exit", x.copied(0, 5, 0), -1);
    C.due("no item", x.copied(0, 6, 0), -1);
    C.due("another trace", x.copied(1, 3, 0), -1);
    C.due("no trace", x.copied(2, 3, 0), -1);
    for (int no : NEITHER) {
      C.due("copied(0, 3, " + no + ")", x.copied(0, 3, no), -1);
      C.due("copied(0, " + no + ", 0)", x.copied(0, no, 0), -1);
      C.due("copied(" + no + ", 3, 0)", x.copied(no, 3, 0), -1);
    }
  }

  private static void askedBusy() {
    C.says("How many ITEMS of a KIND are in a cycle of a TRACE; NONE: no such ones (cycles: below LENGTH).");
    TraceDesk x = C.desk("units sums 4 1; block x; a=1+0; b=1+0; c=1+0; d=1+0; e=1+0; f=2*2; stop;");
    C.due("length", x.trace(0, 2), 2);
    int[][] due = {{4, 1, 0, 0}, {1, 0, 0, 1}};
    for (int cycle = 0; cycle < 2; cycle++) {
      for (int kind = 0; kind < 4; kind++) {
        C.due("busy(0, " + cycle + ", " + kind + ")", x.busy(0, cycle, kind), due[cycle][kind]);
      }
    }
    for (int kind = 0; kind < 4; kind++) {
      C.due("busy(0, 2, " + kind + ")", x.busy(0, 2, kind), -1);
      C.due("busy(1, 0, " + kind + ")", x.busy(1, 0, kind), -1);
    }
    C.due("busy(0, 0, 4)", x.busy(0, 0, 4), -1);
    for (int no : NEITHER) {
      C.due("busy(0, 0, " + no + ")", x.busy(0, 0, no), -1);
      C.due("busy(0, " + no + ", 0)", x.busy(0, no, 0), -1);
      C.due("busy(" + no + ", 0, 0)", x.busy(no, 0, 0), -1);
    }
  }
}
