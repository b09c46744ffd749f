import java.util.Random;

/** Every call with arguments from all over, in states from all over: none may throw or fail to end. */
public final class WrongInputsTest {
  private static final int[] SOME = {Integer.MIN_VALUE, Integer.MIN_VALUE + 1, -2, -1, 0, 1, 2, 3, 4, 5, 6, 7, 8, 9, 12, 16,
    33, 34, 1155, 65536, Integer.MAX_VALUE - 1, Integer.MAX_VALUE};
  private static final Checks CHECKS = new Checks();

  private WrongInputsTest() { }

  public static void main(String[] args) {
    Random random = new Random(7);
    for (int run = 0; run < 600; run++) {
      TraceDesk desk = new TraceDesk();
      if (run % 3 == 0) {
        Checks.tape(desk, noise(random));
        CHECKS.due("a number of a fault", desk.read() <= 5, true);
      }
      if (run % 3 != 2) {
        Checks.tape(desk, Texts.program(random));
        CHECKS.due("read", desk.read(), 0);
      }
      for (int n = 0; n < 350; n++) {
        call(desk, random.nextInt(33), some(random), some(random), some(random));
      }
      CHECKS.due("agrees()", desk.agrees(), 1);
    }
    CHECKS.end("WrongInputsTest");
  }

  private static int some(Random random) {
    return SOME[random.nextInt(SOME.length)];
  }

  private static String noise(Random random) {
    StringBuilder text = new StringBuilder();
    String signs = "abxy 0189;=<+-*/\n";
    int length = random.nextInt(2001);
    for (int i = 0; i < length; i++) {
      text.append(random.nextInt(40) == 0 ? (char) random.nextInt(256) : signs.charAt(random.nextInt(signs.length())));
    }
    return text.toString();
  }

  private static void call(TraceDesk desk, int which, int a, int b, int c) {
    switch (which) {
      case 0: desk.feed(a, b, c, a, b); break;
      case 1: desk.back(a); break;
      case 2: if (a > 65536) { desk.read(); } break;
      case 3: desk.place(); break;
      case 4: desk.reg(a); break;
      case 5: desk.cell(a); break;
      case 6: desk.kind(a, b); break;
      case 7: desk.block(a, b); break;
      case 8: desk.gone(a, b); break;
      case 9: desk.set(a, b); break;
      case 10: desk.put(a, b); break;
      case 11: CHECKS.due("how a run comes out", desk.run() <= 2, true); break;
      case 12: desk.clear(); break;
      case 13: desk.rename(a < 0); break;
      case 14: desk.units(a, b, c); break;
      case 15: desk.undo(); break;
      case 16: CHECKS.due("traces", desk.traces() <= 8, true); break;
      case 17: desk.trace(a, b); break;
      case 18: desk.member(a, b); break;
      case 19: desk.item(a, b, c); break;
      case 20: desk.needs(a, b, c); break;
      case 21: desk.copied(a, b, c); break;
      case 22: desk.busy(a, b, c); break;
      case 23: desk.slow(a); break;
      case 24: desk.fast(a); break;
      case 25: desk.agrees(); break;
      case 26: desk.left(a); break;
      case 27: desk.growth(a); break;
      case 28: desk.saved(a); break;
      case 29: desk.hold(a); break;
      case 30: desk.restore(a); break;
      default: desk.count(a);
    }
  }
}
