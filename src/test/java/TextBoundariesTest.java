import java.util.Arrays;

/** What a text is, and promises 1 to 5: each sentence that names a boundary, by a test of its own. */
public final class TextBoundariesTest {
  private static final Checks C = new Checks();
  private static final String[] WORDS = {"units", "block", "sums", "hard", "cells", "jumps", "at", "goto", "if", "else",
    "stop", "a", "b", "c", "d", "e", "f"};
  private static final String[] KINDS = {"sums", "hard", "cells", "jumps"};
  /** Five tokens. */
  private static final String FIVE = "units sums 1 1;";
  private static final int MIN = Integer.MIN_VALUE;
  private static final int MAX = Integer.MAX_VALUE;

  private TextBoundariesTest() { }

  public static void main(String[] args) {
    mostBytes();
    longestTokens();
    blanks();
    noBlanks();
    lettersOfNames();
    lengthOfNames();
    namesAreNoWords();
    ints();
    signs();
    everyByte();
    emptyText();
    forms();
    formsThatBreakOff();
    unitsTold();
    unitsToldTwice();
    unitsNotTold();
    mostBlocks();
    mostLines();
    numbersOfBlocks();
    kindsOfLines();
    blocksToldLater();
    firstFault();
    faultAtTheEnd();
    leastFault();
    mostTokens();
    ninthBlock();
    seventhLine();
    laterFaultsOnlyWithoutOthers();
    firstOfTheLater();
    twice();
    noSuchName();
    wrongNumbers();
    faultChangesNothing();
    textInPlace();
    textInPlaceOfMany();
    newObject();
    feedsTwentyBytes();
    feedsNoMoreThanRoom();
    backTakesTheLast();
    backTakesNoMoreThanThereIs();
    readEmptiesTheTape();
    placeOfTheLatest();
    C.end("TextBoundariesTest");
  }

  private static void fine(String text) {
    TraceDesk x = new TraceDesk();
    Checks.tape(x, text);
    C.due("read of " + text, x.read(), 0);
    C.due("place of " + text, x.place(), -1);
  }

  /** A caret stands where the fault is; the text goes without it. */
  private static void fault(int number, String marked) {
    String text = marked.replace("^", "");
    TraceDesk x = new TraceDesk();
    Checks.tape(x, text);
    C.due("read of " + text, x.read(), number);
    C.due("place of " + text, x.place(), marked.indexOf('^'));
  }

  private static String blocks(int n) {
    StringBuilder text = new StringBuilder();
    for (int i = 0; i < n; i++) {
      text.append("block x").append("stuvwxyzg".charAt(i)).append(";stop;");
    }
    return text.toString();
  }

  private static String lines(int n) {
    return "at 1=2;".repeat(n);
  }

  private static void mostBytes() {
    C.says("A TEXT has 2,000 bytes at most.");
    String most = "block x;" + " ".repeat(1987) + "stop;";
    C.due("bytes", most.length(), 2000);
    fine(most);
    fault(1, "block x;" + " ".repeat(1988) + "stop^");
    fault(1, "block x;" + " ".repeat(1991) + "^;");
  }

  private static void longestTokens() {
    C.says("TOKENS, the longest that can be");
    fine("block blocks; stop;");
    fine("block atat; goto atat;");
    fault(1, "block x; ^stopx;");
    fault(1, "block x; ^gotox;");
    fault(1, "block x; ^aa=1+1; stop;");
    fault(1, "units sums 11^;");
    fault(5, "units sums ^11 1;");
    fault(1, "units sums 1 ^11111;");
    fault(1, "^unitssum 1 1;");
  }

  private static void blanks() {
    C.says("with blanks (9, 10, 13, 32) between or not");
    for (char blank : new char[] {9, 10, 13, 32}) {
      fine("" + blank);
      fine("block" + blank + "x" + blank + blank + ";" + blank + "a" + blank + "=1+1;stop" + blank + ";" + blank);
      fault(1, "block x; a=1" + blank + "^1+1;");
      fault(1, "block x; ^st" + blank + "op;");
    }
    for (char other : new char[] {0, 8, 11, 12, 14, 31, 33, 127, 128, 133, 160, 255}) {
      fault(1, "^" + other);
      fault(1, "block x;^" + other + "stop;");
    }
  }

  private static void noBlanks() {
    C.says("with blanks (9, 10, 13, 32) between or not");
    fine("units sums1 1;block x;a=1+1;at1=2;b=at1;stop;");
    fine("block x;if a<5goto x else x;");
  }

  private static void lettersOfNames() {
    C.says("NAMES (letters a .. z, 8 at most");
    for (char letter = 'g'; letter <= 'z'; letter++) {
      fine("block " + letter + "; stop;");
    }
    for (char letter = 'a'; letter <= 'z'; letter++) {
      fine("block z" + letter + "; goto z" + letter + ";");
    }
    for (char other : new char[] {'a' - 1, 'z' + 1, 'A', 'Z', 'G', '_', '\u00df', '\u00e9'}) {
      fault(1, "block ^" + other + "; stop;");
      fault(1, "block x^" + other + "; stop;");
    }
    fault(1, "block x^1; stop;");
  }

  private static void lengthOfNames() {
    C.says("8 at most, none of the words in quotes");
    fine("block abcdefgh; goto abcdefgh;");
    fine("block abcdefgh; stop; block abcdefgi; goto abcdefgh;");
    fine("block abcdefg; stop; block abcdefgh; stop;");
    fault(1, "block ^abcdefghi; stop;");
    fault(1, "block x; goto ^xxxxxxxxx;");
    fault(1, "block ^" + "x".repeat(1900) + "; stop;");
  }

  private static void namesAreNoWords() {
    C.says("none of the words in quotes");
    for (String word : WORDS) {
      fault(1, "block ^" + word + "; stop;");
      fault(1, "block x; goto ^" + word + ";");
      fault(1, "block x; if a<1 goto x else ^" + word + ";");
      fine("block " + word + "g; goto " + word + "g;");
      fine("block g" + word + "; goto g" + word + ";");
    }
  }

  private static void ints() {
    C.says("INTS (1 to 4 digits)");
    fine("block x; a=0+9999; at 0000=1; stop;");
    fault(1, "block x; a=^10000+1; stop;");
    fault(1, "block x; a=1+^00000; stop;");
    fault(1, "units ^" + "1".repeat(1900) + "; stop;");
    TraceDesk x = C.desk("block x; a=0010+0; b=9999+0; c=0-9876; d=007+0; e=1023+4567; stop;");
    int[] due = {10, 9999, -9876, 7, 5590};
    for (int r = 0; r < due.length; r++) {
      C.due("left(" + r + ")", x.left(r), due[r]);
    }
  }

  private static void signs() {
    C.says("SIGNS ; = + - * / <");
    fine("block x; a=1+1; b=1-1; c=1*1; d=1/1; if a<1 goto x else x;");
    for (char other : "!\"#$%&'(),.:>?@[\\]_`{|}~".toCharArray()) {
      fault(1, "block x; a=1^" + other + "1; stop;");
      fault(1, "block x^" + other + " stop;");
      fault(1, "block x; if a^" + other + "1 goto x else x;");
      fault(1, "block x; a^" + other + "1+1; stop;");
    }
    fault(1, "block x; a=1+^-1; stop;");
    fault(1, "block x; if a<^=1 goto x else x;");
    fault(1, "block x; a=1*^*2; stop;");
  }

  /** Each byte where a NAME, an INT, a SIGN must stand. */
  private static void everyByte() {
    C.says("A longer one, all else, is no TOKEN.");
    for (int b = 0; b < 256; b++) {
      char sign = (char) b;
      boolean blank = b == 9 || b == 10 || b == 13 || b == 32;
      boolean letter = b >= 'a' && b <= 'z';
      boolean digit = b >= '0' && b <= '9';
      read("block " + sign + "; stop;", letter && b > 'f' ? 0 : 1, letter && b > 'f' ? -1 : blank ? 7 : 6);
      read("units hard " + sign + " 1;", b >= '1' && b <= '4' ? 0 : digit ? 5 : 1,
          b >= '1' && b <= '4' ? -1 : blank ? 14 : 11);
      boolean op = b == '+' || b == '-' || b == '*' || b == '/';
      read("block x;a=1" + sign + "2;stop;", op ? 0 : 1, op ? -1 : digit ? 13 : blank ? 12 : 11);
      read("" + sign, blank ? 0 : 1, blank ? -1 : 0);
    }
  }

  private static void read(String text, int fault, int place) {
    TraceDesk x = new TraceDesk();
    Checks.tape(x, text);
    C.due("read of " + text, x.read(), fault);
    C.due("place of " + text, x.place(), place);
  }

  private static void emptyText() {
    C.says("text: {TELL}.");
    fine("");
    fine(" \t\r\n ");
    fine(FIVE);
    fine("block x; stop;");
    fine("block x; stop; units sums 1 1; block y; stop; units hard 1 1;");
    TraceDesk x = C.desk("block x; stop;");
    C.due("read of nothing", x.read(), 0);
    C.due("no blocks", x.count(0), 0);
  }

  private static void forms() {
    C.says("LINE: REG '=' VALUE ('+' | '-' | '*' | '/') VALUE ';' | REG '=' 'at' VALUE ';' | 'at' VALUE '=' VALUE ';'.");
    fine("block x; f=1+a; f=a-1; f=at a; f=at 1; at a=a; at 1=1; stop;");
    fine("block x; f=a*a; f=1/1; stop;");
    fault(1, "block x; a=1^; stop;");
    fault(1, "block x; a=b^; stop;");
    fault(1, "block x; a=1+1^+1; stop;");
    fault(1, "block x; a=^x+1; stop;");
    fault(1, "block x; ^x=1+1; stop;");
    fault(1, "block x; ^1=1+1; stop;");
    fault(1, "block x; a=at 1^+1; stop;");
    fault(1, "block x; a=at ^at 1; stop;");
    fault(1, "block x; at 1=1^+1; stop;");
    fault(1, "block x; at 1=^at 1; stop;");
    fault(1, "block x; at ^x=1; stop;");
    fault(1, "block x; at a^;");
    C.says("END: 'goto' NAME ';' | 'if' REG '<' VALUE 'goto' NAME 'else' NAME ';' | 'stop' ';'.");
    fine("block x; goto x;");
    fine("block x; if f<a goto x else x;");
    fine("block x; if a<9999 goto x else x;");
    fault(1, "block x; if ^1<a goto x else x;");
    fault(1, "block x; if ^<1 goto x else x;");
    fault(1, "block x; if ^x<1 goto x else x;");
    fault(1, "block x; if a ^goto x else x;");
    fault(1, "block x; ^=1+1; stop;");
    fault(1, "block x; if a<^x goto x else x;");
    fault(1, "block x; if a<1 ^else x goto x;");
    fault(1, "block x; if a<1 goto x^;");
    fault(1, "block x; if a<1 goto x else ^goto x;");
    fault(1, "block x; stop; ^stop;");
    fault(1, "block x; stop; ^a=1+1;");
    fault(1, "block x; ^block y; stop;");
    fault(1, "block x; ^;");
    C.says("TELL: 'units' KIND INT INT ';' | 'block' NAME ';' {LINE} END.");
    fault(1, "units ^x 1 1;");
    fault(1, "units sums ^a 1;");
    fault(1, "units sums 1 ^a;");
    fault(1, "units sums 1 1 ^1;");
    fault(1, "units ^1 1;");
    for (String word : WORDS) {
      if (!Arrays.asList(KINDS).contains(word)) {
        fault(1, "units ^" + word + " 1 1;");
      }
    }
    fault(1, "block ^; stop;");
    fault(1, "block x ^stop;");
    fault(1, "block x; stop;^;");
    fault(1, "^sums 1 1;");
    fault(1, "^x; stop;");
  }

  /** A text cut behind each of its tokens; a bar stands where a TELL ends. */
  private static void formsThatBreakOff() {
    C.says("with which no text goes on");
    String whole = "| units sums 2 3 ; | block x ; a = b + 1 ; c = at d ; at 1 = e ; if f < 2 goto x else x ; |"
        + " block y ; goto x ; | block z ; stop ; |";
    StringBuilder text = new StringBuilder();
    String[] parts = whole.split(" ");
    for (int i = 0; i < parts.length; i++) {
      if (parts[i].equals("|")) {
        fine(text.toString());
      } else {
        text.append(parts[i]).append(' ');
        if (!parts[i + 1].equals("|")) {
          fault(1, text + " ^");
        }
      }
    }
  }

  private static void unitsTold() {
    C.says("how many lines of it in a cycle 1 .. 4, how long one takes, its LATENCY 1 .. 6");
    for (int k = 0; k < KINDS.length; k++) {
      for (int many = 1; many <= 4; many++) {
        for (int latency = 1; latency <= 6; latency++) {
          TraceDesk x = C.desk("units " + KINDS[k] + " " + many + " " + latency + ";");
          C.due("units of " + KINDS[k], x.kind(k, 0), many);
          C.due("latency of " + KINDS[k], x.kind(k, 1), latency);
        }
      }
    }
  }

  private static void unitsToldTwice() {
    C.says("(the last ones; not told: one; sums 1, hard 3, cells 2, jumps 1)");
    TraceDesk x = C.desk("units cells 4 6; units hard 2 2; block x; stop; units cells 2 3; units hard 2 1;");
    C.due("the last ones", x.kind(2, 0) * 10 + x.kind(2, 1), 23);
    C.due("the last ones", x.kind(1, 0) * 10 + x.kind(1, 1), 21);
  }

  private static void unitsNotTold() {
    C.says("not told: one; sums 1, hard 3, cells 2, jumps 1");
    TraceDesk x = C.desk("units sums 2 2; units hard 2 2; units cells 3 3; units jumps 2 2;");
    Checks.tape(x, "block x; stop;");
    C.due("read", x.read(), 0);
    int[] latencies = {1, 3, 2, 1};
    for (int k = 0; k < 4; k++) {
      C.due("units of " + k, x.kind(k, 0), 1);
      C.due("latency of " + k, x.kind(k, 1), latencies[k]);
    }
  }

  private static void mostBlocks() {
    C.says("BLOCKS, 8 at most, with 6 LINES each at most");
    fine(blocks(8));
    C.due("blocks", C.desk(blocks(8)).count(0), 8);
    fault(2, blocks(8) + "^block xg; stop;");
  }

  private static void mostLines() {
    C.says("BLOCKS, 8 at most, with 6 LINES each at most");
    StringBuilder text = new StringBuilder();
    for (int b = 0; b < 8; b++) {
      text.append("block x").append("stuvwxyz".charAt(b)).append(";a=a+1;b=a*2;").append(lines(4)).append("stop;");
    }
    fine(text.toString());
    TraceDesk x = C.desk(text.toString());
    C.due("lines", x.count(1), 48);
    C.due("lines of the last", x.block(7, 0), 6);
    fine("block x; stop;");
    C.due("no lines", C.desk("block x; stop;").block(0, 0), 0);
  }

  private static void numbersOfBlocks() {
    C.says("numbered from 0 on as they stand");
    TraceDesk x = C.desk("block z; a=1+1; goto x; units sums 1 1; block y; stop; block x; if a<1 goto y else z;");
    C.due("lines of 0", x.block(0, 0), 1);
    C.due("end of 1", x.block(1, 1), 2);
    C.due("end of 2", x.block(2, 1), 1);
    C.due("z goes to x", x.block(0, 3), 2);
    C.due("x goes to y", x.block(2, 3), 1);
    C.due("x goes to z", x.block(2, 4), 0);
    C.due("block(-1, 0)", x.block(-1, 0), -1);
    C.due("block(3, 0)", x.block(3, 0), -1);
  }

  private static void kindsOfLines() {
    C.says("a LINE of + or -: KIND sums; of * or /: hard; of at: cells (REG = at: a LOAD; at .. =: a STORE); an END: jumps.");
    TraceDesk x = C.desk("block x; a=1+1; a=1-1; a=1*1; a=1/1; a=at 1; at 1=1; stop; block y; goto y;"
        + "block z; if a<1 goto z else z;");
    int[] kinds = {0, 0, 1, 1, 2, 2, 3};
    for (int i = 0; i < kinds.length; i++) {
      C.due("kind of item " + i, x.item(0, i, 3), kinds[i]);
    }
    C.due("kind of a goto", x.item(1, 0, 3), 3);
    C.due("kind of an if", x.item(2, 0, 3), 3);
  }

  private static void blocksToldLater() {
    C.says("NAMES in ENDS may be of BLOCKS told later.");
    fine("block x; goto y; block y; stop;");
    fine("block x; if a<1 goto z else y; block y; goto x; block z; goto z;");
    fine("block x; goto y; units sums 1 1; block y; stop;");
    TraceDesk x = C.desk("block x; if a<1 goto z else y; block y; stop; block z; stop;");
    C.due("the last told", x.block(0, 3), 2);
    C.due("the one behind", x.block(0, 4), 1);
  }

  private static void firstFault() {
    C.says("FAULTS of a text, the first by its place (a byte; the text's end: its length), of one place the least");
    fault(1, "block x; ^+ - stop; block x");
    fault(1, "block x; ^A B; stop;");
    fault(1, "block x; ^xx; block xxxxxxxxx; stop;");
    fault(1, "^; " + FIVE.repeat(81));
    fault(1, "block x; ^x; " + lines(7) + "stop;");
    fault(2, blocks(8) + "^block 1; stop;");
    fault(2, "block x;" + lines(6) + "^a=1; stop;");
    fault(2, FIVE.repeat(80) + "^units 1;");
    fault(2, "block x;" + lines(6) + "^at 1=2; stop;" + blocks(8));
    fault(2, blocks(8) + "^block x;" + lines(7) + "stop;");
  }

  private static void faultAtTheEnd() {
    C.says("(a byte; the text's end: its length)");
    fault(1, "block^");
    fault(1, "block x; stop   ^");
    fault(1, "block x; stop\n^");
    fault(1, "block x;^");
    fault(1, "units^");
    fault(1, "block x; a=b+^");
  }

  private static void leastFault() {
    C.says("of one place the least: 1 SYNTAX");
    fault(1, FIVE.repeat(80) + "^sums");
    fault(1, FIVE.repeat(80) + "^;");
    fault(1, FIVE.repeat(80) + "^A");
    fault(1, FIVE.repeat(80) + "^abcdefghi");
    fault(1, FIVE.repeat(79) + "block x;a=^;");
    fault(1, FIVE.repeat(79) + "units sums 1 1^");
    fault(1, FIVE.repeat(79) + "units sums 1 1 ^1");
    fault(1, blocks(8) + "^x");
  }

  private static void mostTokens() {
    C.says("2 ROOM: a 401st TOKEN");
    fine(FIVE.repeat(80));
    fine(FIVE.repeat(79) + "block x;stop;");
    fault(2, FIVE.repeat(79) + "block x;a=^1+1;stop;");
    fault(2, FIVE.repeat(79) + "block x;goto x^;");
    fault(2, FIVE.repeat(80) + "^block x;stop;");
    fault(2, FIVE.repeat(80) + "   ^units");
    fault(2, "block x;stop;" + FIVE.repeat(79) + "^units sums 1 1;");
    fine("block x;stop;" + FIVE.repeat(79) + "   ");
  }

  private static void ninthBlock() {
    C.says("a 9th BLOCK, a 7th LINE of one (at its first TOKEN)");
    fault(2, blocks(8) + "^block xg;stop;");
    fault(2, blocks(8) + "units sums 1 1; ^block");
    fault(2, blocks(8) + "^block xs;stop;");
    fault(2, blocks(8) + "  ^block abcdefghi;");
    fine(blocks(8) + FIVE);
  }

  private static void seventhLine() {
    C.says("a 7th LINE of one (at its first TOKEN)");
    String six = "block x;" + lines(6);
    fine(six + "stop;");
    fine(six + "goto x;");
    fine(six + "if a<1 goto x else x;");
    fault(2, six + "^a=1+1;stop;");
    fault(2, six + "  ^f=at 1;stop;");
    fault(2, six + "^at 1=1;stop;");
    fault(2, six + "^a");
    fault(2, "block y;" + lines(6) + "stop;" + six + "^at");
    fault(2, "block y;a=1+1;stop;" + six + "^b=b/b;stop;");
    fault(1, six + "^g=1+1;stop;");
  }

  private static void laterFaultsOnlyWithoutOthers() {
    C.says("If there is none, likewise: 3 TWICE");
    fault(1, "block x; stop; block x; stop; ^;");
    fault(1, "block x; goto n; block y^");
    fault(1, "units sums 0 7; ^x");
    fault(2, "units sums 0 7;" + FIVE.repeat(79) + "^units");
    fault(2, "block x;goto n;block x;" + lines(6) + "^at 1=1;stop;");
    fault(2, blocks(7) + "block xs;goto n;^block x;stop;");
  }

  private static void firstOfTheLater() {
    C.says("If there is none, likewise");
    fault(3, "block x; stop; block ^x; goto n;");
    fault(4, "block x; goto ^n; block x; stop;");
    fault(3, "block x; stop; block ^x; stop; units sums 5 1;");
    fault(5, "units sums ^5 1; block x; stop; block x; stop;");
    fault(4, "block x; goto ^n; units sums 1 7;");
    fault(5, "units sums 1 ^7; block x; goto n;");
    fault(4, "block x; goto ^n; block x; goto m; units hard 0 0;");
    fault(5, "block x; goto y; units hard 1 ^0; block y; goto n; block x; stop;");
    fault(3, "block x; goto y; block ^x; goto n; units hard 0 0; block y; stop;");
  }

  private static void twice() {
    C.says("3 TWICE: a BLOCK's NAME told already.");
    fault(3, "block x; stop; block ^x; stop;");
    fault(3, "block x; stop; block y; stop; block ^x; stop; block y; stop;");
    fault(3, "block x; stop; block y; stop; block ^y; stop;");
    fault(3, blocks(7) + "block ^xy; stop;");
    fault(3, "block abcdefgh; stop; block ^abcdefgh; stop;");
    fine("block x; goto x; block xx; goto x; block xxx; goto xx;");
    fine("block gh; stop; block hg; stop;");
  }

  private static void noSuchName() {
    C.says("4 NAME: (at it, in an END) no such BLOCK.");
    fault(4, "block x; goto ^n;");
    fault(4, "block x; if a<1 goto ^n else x;");
    fault(4, "block x; if a<1 goto x else ^n;");
    fault(4, "block x; if a<1 goto ^n else m;");
    fault(4, "block xy; goto ^x;");
    fault(4, "block x; goto ^xx;");
    fault(4, "block abcdefgh; goto ^abcdefgi;");
    fault(4, "block x; stop; block y; goto ^n; block z; goto m;");
    TraceDesk x = C.desk("block n; stop;");
    Checks.tape(x, "block x; goto n;");
    C.due("a block of the text ahead is none", x.read(), 4);
    C.due("place()", x.place(), 14);
  }

  private static void wrongNumbers() {
    C.says("5 WRONG (at the INT): a number of UNITS not as told above.");
    for (String kind : KINDS) {
      fault(5, "units " + kind + " ^0 1;");
      fine("units " + kind + " 1 1;");
      fine("units " + kind + " 4 6;");
      fine("units " + kind + " 0004 0006;");
      fault(5, "units " + kind + " ^5 1;");
      fault(5, "units " + kind + " 1 ^0;");
      fault(5, "units " + kind + " 4 ^7;");
      fault(5, "units " + kind + " ^9999 0;");
      fault(5, "units " + kind + " 1 ^9999;");
    }
    fault(5, "units sums ^0 1; units sums 1 1;");
  }

  private static void faultChangesNothing() {
    C.says("A text with a FAULT changes nothing but the tape");
    String[] texts = {"block z; oops", blocks(8) + "block", "block z; stop; block z; stop;", "units sums 2 2; block z; goto n;",
      "block z; stop; units sums 2 2; units hard 5 1;"};
    TraceDesk x = C.desk("units jumps 2 2; block x; a=a+1; if a<3 goto x else y; block y; at 1=a; stop;");
    x.set(2, 7);
    x.run();
    x.rename(false);
    x.hold(1);
    String before = all(x);
    for (int i = 0; i < texts.length; i++) {
      Checks.tape(x, texts[i]);
      C.due("read of " + texts[i], x.read(), i + 1);
      C.due("bytes on the tape", x.count(8), 0);
      C.due("all behind " + texts[i], all(x), before);
    }
    C.due("what is done can be undone", x.undo(), true);
    C.due("renaming", x.count(2), 1);
    C.due("what is held can be restored", x.restore(1), true);
    C.due("renaming", x.count(2), 0);
    C.due("a run", x.run(), 0);
  }

  /** All that a text, calls by hand and runs change. */
  private static String all(TraceDesk x) {
    StringBuilder text = new StringBuilder();
    for (int i = 0; i < 8; i++) {
      text.append(x.reg(i)).append(' ').append(x.cell(i)).append(' ');
      for (int what = 0; what < 9; what++) {
        text.append(x.block(i, what)).append(' ');
      }
      text.append(x.gone(i, 0)).append(' ').append(x.gone(i, 1)).append(' ');
      text.append(x.kind(i, 0)).append(' ').append(x.kind(i, 1)).append(' ');
    }
    for (int what = 0; what < 12; what++) {
      text.append(x.count(what)).append(' ');
    }
    return text.append(x.left(0)).append(' ').append(x.slow(1)).toString();
  }

  private static void textInPlace() {
    C.says("else it is in place of the one ahead: all REGISTERS and CELLS 0, nothing counted, renaming on; nothing can be undone,"
        + " SLOTS hold nothing.");
    String text = "block x; a=a+1; at 1=a; stop;";
    for (String next : new String[] {text, ""}) {
      TraceDesk x = C.desk("units hard 3 3; block y; goto y; block z; stop;");
      for (int i = 0; i < 8; i++) {
        x.set(i, i + 1);
        x.put(i, i + 1);
        x.hold(i);
      }
      x.run();
      x.rename(false);
      x.units(2, 4, 4);
      Checks.tape(x, next);
      C.due("read", x.read(), 0);
      C.due("as of a new one", all(x), all(C.desk(next)));
      C.due("registers, cells", x.reg(0) + x.reg(5) + x.cell(0) + x.cell(7), 0);
      C.due("counted", x.count(3), 0);
      C.due("renaming", x.count(2), 1);
      C.due("done", x.count(9), 0);
      C.due("undo()", x.undo(), false);
      C.due("slots", x.count(11), 0);
      for (int slot = 0; slot < 3; slot++) {
        C.due("restore(" + slot + ")", x.restore(slot), false);
      }
    }
  }

  /** Nothing of any text ahead, nor of one with a fault, shows in what follows from the last. */
  private static void textInPlaceOfMany() {
    C.says("else it is in place of the one ahead");
    String[] texts = {"block x; a=a+1; b=f*2; if a<3 goto x else y; block y; c=b+1; goto z; block z; stop;",
      "block x; goto x;", "units hard 2 2; block z; if f<1 goto y else x; block y; d=1+0; goto x; block x; d=d/d; stop;",
      "block y; e=f+1; goto y; block z; d=at 1; stop;", "block x; a=1+0; oops", ""};
    TraceDesk x = new TraceDesk();
    String last = Rows.all(x);
    for (int n = 0; n < 13; n++) {
      String text = texts[n * 5 % 6];
      Checks.tape(x, text);
      if (x.read() == 0) {
        last = Rows.all(C.desk(text));
      }
      C.due("all behind " + text, Rows.all(x), last);
      x.run();
      Rows.all(x);
      x.undo();
    }
  }

  private static void newObject() {
    C.says("`TraceDesk()`: No BLOCKS.");
    TraceDesk x = new TraceDesk();
    C.due("count(0)", x.count(0), 0);
    C.due("block(0, 0)", x.block(0, 0), -1);
    C.due("traces()", x.traces(), 0);
    C.due("as behind an empty text", all(x), all(C.desk("")));
    C.due("place()", x.place(), -1);
    C.due("undo()", x.undo(), false);
    C.due("restore(0)", x.restore(0), false);
    C.due("clear()", x.clear(), -1);
    C.due("back(1)", x.back(1), -1);
  }

  private static void feedsTwentyBytes() {
    C.says("Twenty bytes, the highest of a first, come behind the tape: how many it has.");
    for (int at = 0; at < 20; at++) {
      int[] words = {0x20202020, 0x20202020, 0x20202020, 0x20202020, 0x20202020};
      words[at / 4] = 0x20202020 | 0xff << 24 - at % 4 * 8;
      TraceDesk x = new TraceDesk();
      C.due("feed", x.feed(0x20202020, 0x09090909, 0x0a0a0a0a, 0x0d0d0d0d, 0x20090a0d), 20);
      C.due("feed", x.feed(words[0], words[1], words[2], words[3], words[4]), 40);
      C.due("read()", x.read(), 1);
      C.due("place()", x.place(), 20 + at);
    }
  }

  private static void feedsNoMoreThanRoom() {
    C.says("NONE, and nothing comes, if it would have more than 2,000.");
    TraceDesk x = new TraceDesk();
    for (int n = 1; n <= 100; n++) {
      C.due("feed", x.feed(0x20202020, 0x20202020, 0x20202020, 0x20202020, 0x20202020), 20 * n);
    }
    C.due("feed to 2,020", x.feed(0, 0, 0, 0, 0), -1);
    C.due("bytes", x.count(8), 2000);
    C.due("back(19)", x.back(19), 1981);
    C.due("feed to 2,001", x.feed(0, 0, 0, 0, 0), -1);
    C.due("bytes", x.count(8), 1981);
    C.due("back(1)", x.back(1), 1980);
    C.due("feed to 2,000", x.feed(0x20202020, 0x20202020, 0x20202020, 0x20202020, 0x20202020), 2000);
    C.due("read(): nothing came of what was refused", x.read(), 0);
    C.due("there is room again", x.feed(1, 2, 3, 4, 5), 20);
  }

  private static void backTakesTheLast() {
    C.says("The last n bytes of the tape go: how many it has.");
    TraceDesk x = new TraceDesk();
    Checks.tape(x, "block x; stop; block y; stop;");
    C.due("back(0)", x.back(0), 29);
    C.due("back(15)", x.back(15), 14);
    C.due("read()", x.read(), 0);
    C.due("the first bytes stay", x.count(0), 1);
    Checks.tape(x, "oops");
    C.due("back(4)", x.back(4), 0);
    Checks.tape(x, "block z; stop;");
    C.due("what comes then stands first", x.read(), 0);
    C.due("blocks", x.count(0), 1);
  }

  private static void backTakesNoMoreThanThereIs() {
    C.says("NONE, and nothing goes, if it has not so many, or n is below 0.");
    TraceDesk x = new TraceDesk();
    C.due("back(0) of none", x.back(0), 0);
    C.due("back(1) of none", x.back(1), -1);
    x.feed(0x20202020, 0x20202020, 0x20202020, 0x20202020, 0x20202020);
    for (int n : new int[] {21, 22, 2001, MAX, -1, -2, -20, MIN}) {
      C.due("back(" + n + ")", x.back(n), -1);
      C.due("bytes", x.count(8), 20);
    }
    C.due("back(20)", x.back(20), 0);
    C.due("back(1)", x.back(1), -1);
  }

  private static void readEmptiesTheTape() {
    C.says("The tape, which is empty then, is read: 0, or the number of its FAULT.");
    TraceDesk x = new TraceDesk();
    Checks.tape(x, "block x; stop;");
    C.due("read()", x.read(), 0);
    C.due("bytes", x.count(8), 0);
    C.due("back(1)", x.back(1), -1);
    Checks.tape(x, "block x; stop");
    C.due("read()", x.read(), 1);
    C.due("bytes", x.count(8), 0);
    C.due("nothing of it is left", x.read(), 0);
    C.due("no blocks", x.count(0), 0);
  }

  private static void placeOfTheLatest() {
    C.says("The byte of the latest read()'s FAULT; NONE without.");
    TraceDesk x = new TraceDesk();
    C.due("place() without a read", x.place(), -1);
    Checks.tape(x, "oops");
    C.due("place() ahead of the read", x.place(), -1);
    x.read();
    C.due("place() of 0", x.place(), 0);
    Checks.tape(x, "block x; stop; block x; stop;");
    C.due("place() still", x.place(), 0);
    x.read();
    C.due("place() of the later", x.place(), 21);
    x.set(0, 1);
    x.undo();
    x.run();
    C.due("place() stays", x.place(), 21);
    x.read();
    C.due("place() without a fault", x.place(), -1);
  }
}
