import java.util.ArrayList;
import java.util.List;
import java.util.Random;

/** Random texts and random calls, each answer held against the model's. The seeds are fixed. */
public final class ModelTest {
  private static final Checks CHECKS = new Checks();
  private static final int RUNS = Integer.getInteger("tracedesk.runs", 400);
  private static final long SEED = Long.getLong("tracedesk.seed", 1L);

  private final Random random;
  private final TraceDesk desk = new TraceDesk();
  private final Model model = new Model();
  private final List<String> calls = new ArrayList<>();
  private int used;

  private ModelTest(long seed) {
    random = new Random(seed);
  }

  public static void main(String[] args) {
    for (int run = 0; run < RUNS && CHECKS.wrong() == 0; run++) {
      ModelTest test = new ModelTest(SEED * 1000003L + run);
      test.go();
      if (CHECKS.wrong() != 0) {
        System.out.println("in run " + run + ": " + test.calls);
      }
    }
    CHECKS.end("ModelTest");
  }

  private int below(int n) {
    return random.nextInt(n);
  }

  private void due(String call, long got, long want) {
    used++;
    calls.add(call + "=" + want);
    CHECKS.due(call, got, want);
  }

  private void due(String call, boolean got, boolean want) {
    due(call, got ? 1 : 0, want ? 1 : 0);
  }

  private void go() {
    int texts = 1 + below(3);
    for (int t = 0; t < texts; t++) {
      String text = below(12) == 0 ? "" : Texts.program(random);
      if (below(4) == 0) {
        text = Texts.spoiled(text, random);
      }
      calls.add(text);
      tape(text);
      due("read()", desk.read(), model.read());
      due("place()", desk.place(), model.place);
      for (int n = 0; n < 60 && used < 440; n++) {
        change();
        for (int k = 0; k < 3; k++) {
          ask();
        }
      }
      if (used < 200) {
        askAll();
      }
    }
  }

  private void tape(String text) {
    int[][] fives = Checks.fives(text);
    for (int[] f : fives) {
      due("feed", desk.feed(f[0], f[1], f[2], f[3], f[4]), model.feed(f));
    }
    int n = fives.length * 20 - text.length();
    due("back(" + n + ")", desk.back(n), model.back(n));
  }

  private int value() {
    int[] some = {0, 1, 2, 3, 5, 7, 8, -1, -3, 9999, Integer.MIN_VALUE, Integer.MAX_VALUE};
    return below(3) == 0 ? some[below(some.length)] : below(10);
  }

  private void change() {
    int r = below(8) - 1;
    int v = value();
    switch (below(14)) {
      case 0: case 1: case 2:
        due("set(" + r + "," + v + ")", desk.set(r, v), model.set(r, v));
        break;
      case 3: case 4:
        due("put(" + r + "," + v + ")", desk.put(r, v), model.put(r, v));
        break;
      case 5: case 6: case 7:
        due("run()", desk.run(), model.run());
        break;
      case 8:
        int k = below(5);
        int many = below(6);
        int latency = below(8);
        due("units(" + k + "," + many + "," + latency + ")", desk.units(k, many, latency), model.units(k, many, latency));
        break;
      case 9:
        boolean on = below(2) == 0;
        due("rename(" + on + ")", desk.rename(on), model.rename(on));
        break;
      case 10:
        due("undo()", desk.undo(), model.undo());
        break;
      case 11:
        due("hold(" + (r - 1) + ")", desk.hold(r - 1), model.hold(r - 1));
        break;
      case 12:
        due("restore(" + (r - 1) + ")", desk.restore(r - 1), model.restore(r - 1));
        break;
      default:
        if (below(3) == 0) {
          due("clear()", desk.clear(), model.clear());
        }
    }
  }

  private void ask() {
    int a = below(5) == 0 ? below(12) - 2 : below(3);
    int b = below(5) == 0 ? below(40) - 2 : below(12);
    int c = below(13) - 1;
    int d = below(34);
    switch (below(20)) {
      case 0: due("reg(" + c + ")", desk.reg(c), model.reg(c)); break;
      case 1: due("cell(" + c + ")", desk.cell(c), model.cell(c)); break;
      case 2: due("kind(" + a + "," + (c - 2) + ")", desk.kind(a, c - 2), model.kind(a, c - 2)); break;
      case 3: due("block(" + b + "," + c + ")", desk.block(b, c), model.block(b, c)); break;
      case 4: due("gone(" + b + "," + a + ")", desk.gone(b, a), model.gone(b, a)); break;
      case 5: due("traces()", desk.traces(), model.traces().size()); break;
      case 6: case 7: due("trace(" + a + "," + c + ")", desk.trace(a, c), model.trace(a, c)); break;
      case 8: due("member(" + a + "," + (c - 1) + ")", desk.member(a, c - 1), model.member(a, c - 1)); break;
      case 9: case 10:
        due("item(" + a + "," + b + "," + c + ")", desk.item(a, b, c), model.item(a, b, c));
        break;
      case 11: case 12:
        due("needs(" + a + "," + b + "," + d + ")", desk.needs(a, b, d), model.needs(a, b, d));
        break;
      case 13:
        due("copied(" + a + "," + b + "," + c + ")", desk.copied(a, b, c), model.copied(a, b, c));
        break;
      case 14: due("busy(" + a + "," + d + "," + c + ")", desk.busy(a, d, c), model.busy(a, d, c)); break;
      case 15: due("slow(" + (c - 2) + ")", desk.slow(c - 2), model.slow(c - 2)); break;
      case 16: due("fast(" + c + ")", desk.fast(c), model.fast(c)); break;
      case 17:
        due("agrees()", desk.agrees(), model.agrees());
        due("left(" + d + ")", desk.left(d - 2), model.left(d - 2));
        break;
      case 18:
        due("growth(" + (c - 2) + ")", desk.growth(c - 2), model.growth(c - 2));
        due("saved(" + a + ")", desk.saved(a), model.saved(a));
        break;
      default: due("count(" + c + ")", desk.count(c), model.count(c));
    }
  }

  private void askAll() {
    List<Model.Trace> all = model.traces();
    due("agrees()", desk.agrees(), 1);
    for (int t = 0; t < all.size() && used < 480; t++) {
      for (int i = 0; i < all.get(t).items.size() && used < 480; i++) {
        due("item(" + t + "," + i + ",1)", desk.item(t, i, 1), model.item(t, i, 1));
      }
    }
    for (int what = 0; what < 5; what++) {
      due("fast(" + what + ")", desk.fast(what), model.fast(what));
    }
    for (int which = 0; which < 16; which++) {
      due("left(" + which + ")", desk.left(which), model.left(which));
    }
  }
}
