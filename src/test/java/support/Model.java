import java.util.ArrayDeque;
import java.util.ArrayList;
import java.util.Arrays;
import java.util.Deque;
import java.util.HashMap;
import java.util.LinkedHashMap;
import java.util.List;
import java.util.Map;
import java.util.Set;
import java.util.TreeSet;
import java.util.function.ToIntFunction;

/**
 * The document once more, written straight from its words and without a care for speed,
 * so that the answers of TraceDesk can be held against it. It shares no code with the class.
 */
final class Model {
  static final List<String> KINDS = List.of("sums", "hard", "cells", "jumps");
  static final Set<String> WORDS = Set.of("units", "block", "sums", "hard", "cells", "jumps", "at", "goto", "if",
      "else", "stop", "a", "b", "c", "d", "e", "f");
  /** State, then what may follow: sort of token > next state. A text may end in state T alone. */
  static final Map<String, Map<String, String>> GRAMMAR = grammar();

  record Token(String text, int place) { }

  /** set is "" for a store; op is one of + - * / load store. */
  record Line(String op, String set, String left, String right) { }

  static final class Block {
    String name;
    List<Line> lines = new ArrayList<>();
    String end;
    String left = "";
    String right = "";
    List<String> to = new ArrayList<>();
  }

  static final class Unknowns {
    int[] regs = new int[6];
    int[] cells = new int[8];
    int[] begun = new int[8];
    int[][] gone = new int[8][2];
    int[] units = {1, 1, 1, 1};
    int[] latency = {1, 3, 2, 1};
    boolean renaming = true;

    Unknowns copy() {
      Unknowns u = new Unknowns();
      u.regs = regs.clone();
      u.cells = cells.clone();
      u.begun = begun.clone();
      for (int i = 0; i < 8; i++) {
        u.gone[i] = gone[i].clone();
      }
      u.units = units.clone();
      u.latency = latency.clone();
      u.renaming = renaming;
      return u;
    }
  }

  static final class Item {
    int sort;
    int block;
    String op;
    String set = "";
    String left = "";
    String right = "";
    int kind;
    int off = -2;
    int offWay = -2;
    int cycle = -1;
    int height;

    boolean reads(String r) {
      return !r.isEmpty() && (left.equals(r) || right.equals(r));
    }
  }

  static final class Trace {
    List<Integer> blocks = new ArrayList<>();
    List<Item> items = new ArrayList<>();
    int renamed;
    int length;
  }

  static final class Ran {
    int out;
    int cycles;
    int begun;
    int traces;
    int offs;
    int[] begunOf = new int[8];
    int[][] goneOf = new int[8][2];
    Map<String, Integer> regs = new HashMap<>();
    int[] cells;
  }

  StringBuilder tape = new StringBuilder();
  int place = -1;
  List<Block> blocks = new ArrayList<>();
  Unknowns now = new Unknowns();
  Deque<Unknowns> done = new ArrayDeque<>();
  Unknowns[] slots = new Unknowns[3];

  static Map<String, Map<String, String>> grammar() {
    String[] rows = {
      "T units U1", "T block B1", "U1 KIND U2", "U2 INT U3", "U3 INT U4", "U4 ; T",
      "B1 NAME B2", "B2 ; L", "L REG L1", "L at S1", "L goto G1", "L if I1", "L stop E",
      "L1 = L2", "L2 REG L3", "L2 INT L3", "L2 at L4", "L3 OP L4", "L4 REG L5", "L4 INT L5", "L5 ; L",
      "S1 REG S2", "S1 INT S2", "S2 = L4",
      "G1 NAME E", "I1 REG I2", "I2 < I3", "I3 REG I4", "I3 INT I4", "I4 goto I5", "I5 NAME I6", "I6 else G1", "E ; T"};
    Map<String, Map<String, String>> all = new HashMap<>();
    for (String row : rows) {
      String[] parts = row.split(" ");
      all.computeIfAbsent(parts[0], k -> new HashMap<>()).put(parts[1], parts[2]);
    }
    return all;
  }

  // ---- the tape

  int feed(int... five) {
    if (tape.length() + 20 > 2000) {
      return -1;
    }
    for (int word : five) {
      for (int k = 3; k >= 0; k--) {
        tape.append((char) (word >>> 8 * k & 255));
      }
    }
    return tape.length();
  }

  int back(int n) {
    if (n < 0 || n > tape.length()) {
      return -1;
    }
    tape.setLength(tape.length() - n);
    return tape.length();
  }

  static List<Token> tokens(String text) {
    List<Token> all = new ArrayList<>();
    int i = 0;
    while (i < text.length()) {
      char c = text.charAt(i);
      if (c == 9 || c == 10 || c == 13 || c == 32) {
        i++;
        continue;
      }
      int j = i + 1;
      String same = "abcdefghijklmnopqrstuvwxyz".indexOf(c) >= 0 ? "abcdefghijklmnopqrstuvwxyz"
          : "0123456789".indexOf(c) >= 0 ? "0123456789" : "";
      while (j < text.length() && same.indexOf(text.charAt(j)) >= 0) {
        j++;
      }
      all.add(new Token(text.substring(i, j), i));
      i = j;
    }
    return all;
  }

  static Set<String> sorts(String t) {
    Set<String> all = new TreeSet<>();
    if (WORDS.contains(t)) {
      all.add(t);
      if (KINDS.contains(t)) {
        all.add("KIND");
      }
      if (t.length() == 1) {
        all.add("REG");
      }
    } else if (t.matches("[a-z]{1,8}")) {
      all.add("NAME");
    } else if (t.matches("[0-9]{1,4}")) {
      all.add("INT");
    } else if (t.matches("[;=<]")) {
      all.add(t);
    } else if (t.matches("[-+*/]")) {
      all.add("OP");
    }
    return all;
  }

  int read() {
    String text = tape.toString();
    tape.setLength(0);
    List<Token> tokens = tokens(text);
    int[] fault = form(tokens, text.length());
    List<Block> told = new ArrayList<>();
    Unknowns fresh = new Unknowns();
    if (fault == null) {
      fault = meaning(tokens, told, fresh);
    }
    place = fault == null ? -1 : fault[1];
    if (fault != null) {
      return fault[0];
    }
    blocks = told;
    now = fresh;
    done.clear();
    slots = new Unknowns[3];
    return 0;
  }

  /** Faults 1 and 2. */
  static int[] form(List<Token> tokens, int length) {
    String state = "T";
    int blocks = 0;
    int lines = 0;
    for (int n = 0; n < tokens.size(); n++) {
      Token t = tokens.get(n);
      String next = null;
      for (String sort : sorts(t.text())) {
        if (GRAMMAR.get(state).containsKey(sort)) {
          next = GRAMMAR.get(state).get(sort);
        }
      }
      if (next == null) {
        return new int[] {1, t.place()};
      }
      if (next.equals("B1")) {
        blocks++;
        lines = 0;
      }
      if (state.equals("L") && (next.equals("L1") || next.equals("S1"))) {
        lines++;
      }
      if (n >= 400 || blocks > 8 || lines > 6) {
        return new int[] {2, t.place()};
      }
      state = next;
    }
    return state.equals("T") ? null : new int[] {1, length};
  }

  /** Faults 3, 4 and 5; what is told. */
  static int[] meaning(List<Token> tokens, List<Block> told, Unknowns fresh) {
    Map<Integer, Integer> faults = new java.util.TreeMap<>();
    Map<Integer, String> named = new LinkedHashMap<>();
    Set<String> names = new TreeSet<>();
    int i = 0;
    while (i < tokens.size()) {
      if (tokens.get(i).text().equals("units")) {
        int kind = KINDS.indexOf(tokens.get(i + 1).text());
        fresh.units[kind] = Integer.parseInt(tokens.get(i + 2).text());
        fresh.latency[kind] = Integer.parseInt(tokens.get(i + 3).text());
        if (fresh.units[kind] < 1 || fresh.units[kind] > 4) {
          faults.put(tokens.get(i + 2).place(), 5);
        }
        if (fresh.latency[kind] < 1 || fresh.latency[kind] > 6) {
          faults.put(tokens.get(i + 3).place(), 5);
        }
        i += 5;
        continue;
      }
      Block block = new Block();
      block.name = tokens.get(i + 1).text();
      if (!names.add(block.name)) {
        faults.put(tokens.get(i + 1).place(), 3);
      }
      i += 3;
      while (block.end == null) {
        List<String> row = new ArrayList<>();
        int from = i;
        while (!tokens.get(i).text().equals(";")) {
          row.add(tokens.get(i++).text());
        }
        i++;
        tell(block, row);
        if (block.end != null) {
          for (int k = from; k < i; k++) {
            if (sorts(tokens.get(k).text()).contains("NAME")) {
              named.put(tokens.get(k).place(), tokens.get(k).text());
              block.to.add(tokens.get(k).text());
            }
          }
        }
      }
      told.add(block);
    }
    named.forEach((at, name) -> {
      if (!names.contains(name)) {
        faults.put(at, 4);
      }
    });
    for (Map.Entry<Integer, Integer> first : faults.entrySet()) {
      return new int[] {first.getValue(), first.getKey()};
    }
    return null;
  }

  static void tell(Block block, List<String> row) {
    String first = row.get(0);
    if (first.equals("goto") || first.equals("if") || first.equals("stop")) {
      block.end = first;
      if (first.equals("if")) {
        block.left = row.get(1);
        block.right = row.get(3);
      }
    } else if (first.equals("at")) {
      block.lines.add(new Line("store", "", row.get(1), row.get(3)));
    } else if (row.get(2).equals("at")) {
      block.lines.add(new Line("load", first, row.get(3), ""));
    } else {
      block.lines.add(new Line(row.get(3), first, row.get(2), row.get(4)));
    }
  }

  // ---- what is so

  int to(int block, int way) {
    Block b = blocks.get(block);
    if (way < 0 || way >= b.to.size()) {
      return -2;
    }
    for (int i = 0; i < blocks.size(); i++) {
      if (blocks.get(i).name.equals(b.to.get(way))) {
        return i;
      }
    }
    throw new IllegalStateException();
  }

  static int kindOf(String op) {
    return "+-copy".contains(op) ? 0 : "*/".contains(op) ? 1 : op.equals("load") || op.equals("store") ? 2 : 3;
  }

  boolean isBlock(int b) {
    return b >= 0 && b < blocks.size();
  }

  int reg(int r) {
    return r < 0 || r > 5 ? 0 : now.regs[r];
  }

  int cell(int c) {
    return c < 0 || c > 7 ? 0 : now.cells[c];
  }

  int kind(int k, int what) {
    return k < 0 || k > 3 || what < 0 || what > 1 ? -1 : what == 0 ? now.units[k] : now.latency[k];
  }

  int gone(int b, int way) {
    return isBlock(b) && to(b, way) >= 0 ? now.gone[b][way] : -1;
  }

  int block(int b, int what) {
    if (!isBlock(b)) {
      return -1;
    }
    Block block = blocks.get(b);
    switch (what) {
      case 0: return block.lines.size();
      case 1: return List.of("goto", "if", "stop").indexOf(block.end);
      case 2: return now.begun[b];
      case 3: return to(b, 0);
      case 4: return to(b, 1);
      case 5: return live(b);
      case 6: return where(b)[0];
      case 7: return where(b)[1];
      case 8: return joined(b) ? 1 : 0;
      default: return -1;
    }
  }

  /** Each register is looked for along all ways, block by block, none entered twice. */
  int live(int b) {
    int bits = 0;
    for (int r = 0; r < 6; r++) {
      if (readFirst("abcdef".substring(r, r + 1), b, new TreeSet<>())) {
        bits |= 1 << r;
      }
    }
    return bits;
  }

  boolean readFirst(String r, int b, Set<Integer> seen) {
    if (!seen.add(b)) {
      return false;
    }
    Block block = blocks.get(b);
    for (Line line : block.lines) {
      if (line.left().equals(r) || line.right().equals(r)) {
        return true;
      }
      if (line.set().equals(r)) {
        return false;
      }
    }
    if (block.end.equals("stop") || block.left.equals(r) || block.right.equals(r)) {
      return true;
    }
    for (int way = 0; way < block.to.size(); way++) {
      if (readFirst(r, to(b, way), seen)) {
        return true;
      }
    }
    return false;
  }

  // ---- traces

  int bestWay(int b) {
    int n = blocks.get(b).to.size();
    return n == 0 ? -1 : n == 1 ? 0 : now.gone[b][1] > now.gone[b][0] ? 1 : 0;
  }

  List<List<Integer>> choose() {
    List<List<Integer>> all = new ArrayList<>();
    Set<Integer> taken = new TreeSet<>();
    while (taken.size() < blocks.size()) {
      int best = -1;
      for (int b = blocks.size() - 1; b >= 0; b--) {
        if (!taken.contains(b) && (best < 0 || now.begun[b] >= now.begun[best])) {
          best = b;
        }
      }
      List<Integer> row = new ArrayList<>(List.of(best));
      taken.add(best);
      for (int next = behind(row, taken); row.size() < 4 && next >= 0; next = behind(row, taken)) {
        row.add(next);
        taken.add(next);
      }
      for (int from = ahead(row, taken); row.size() < 4 && from >= 0; from = ahead(row, taken)) {
        row.add(0, from);
        taken.add(from);
      }
      all.add(row);
    }
    return all;
  }

  int behind(List<Integer> row, Set<Integer> taken) {
    int last = row.get(row.size() - 1);
    int way = bestWay(last);
    if (way < 0 || taken.contains(to(last, way))) {
      return -1;
    }
    for (int b = 0; b < blocks.size(); b++) {
      for (int w = 0; w < blocks.get(b).to.size(); w++) {
        if (to(b, w) == to(last, way) && now.gone[b][w] > now.gone[last][way]) {
          return -1;
        }
      }
    }
    return to(last, way);
  }

  int ahead(List<Integer> row, Set<Integer> taken) {
    int from = -1;
    int by = -1;
    for (int b = blocks.size() - 1; b >= 0; b--) {
      for (int w = blocks.get(b).to.size() - 1; w >= 0; w--) {
        if (to(b, w) == row.get(0) && (from < 0 || now.gone[b][w] >= now.gone[from][by])) {
          from = b;
          by = w;
        }
      }
    }
    return from < 0 || taken.contains(from) || bestWay(from) != by ? -1 : from;
  }

  int[] where(int b) {
    List<List<Integer>> all = choose();
    for (int t = 0; t < all.size(); t++) {
      if (all.get(t).contains(b)) {
        return new int[] {t, all.get(t).indexOf(b)};
      }
    }
    throw new IllegalStateException();
  }

  boolean joined(int b) {
    int[] where = where(b);
    if (where[1] == 0) {
      return false;
    }
    int ahead = choose().get(where[0]).get(where[1] - 1);
    boolean other = false;
    for (int from = 0; from < blocks.size(); from++) {
      for (int w = 0; w < blocks.get(from).to.size(); w++) {
        other |= from != ahead && to(from, w) == b;
      }
    }
    return b == 0 || other || joined(ahead);
  }

  List<Trace> traces() {
    List<Trace> all = new ArrayList<>();
    for (List<Integer> row : choose()) {
      Trace t = new Trace();
      t.blocks = row;
      gather(t);
      heights(t);
      list(t, now.units);
      all.add(t);
    }
    return all;
  }

  Trace traceOr(int t) {
    List<Trace> all = traces();
    return t < 0 || t >= all.size() ? null : all.get(t);
  }

  void gather(Trace t) {
    Map<String, String> names = new HashMap<>();
    for (int p = 0; p < t.blocks.size(); p++) {
      int b = t.blocks.get(p);
      Block block = blocks.get(b);
      for (Line line : block.lines) {
        Item item = item(t, 0, b, line.op());
        item.left = names.getOrDefault(line.left(), line.left());
        item.right = names.getOrDefault(line.right(), line.right());
        item.set = line.set();
        if (line.set().isEmpty()) {
          continue;
        }
        names.remove(line.set());
        int r = "abcdef".indexOf(line.set());
        boolean wanted = t.items.stream().anyMatch(x -> x.sort == 2 && (live(x.off) >> r & 1) == 1);
        if (now.renaming && wanted && t.renamed < 6) {
          item.set = "fresh" + (6 + t.renamed++);
          names.put(line.set(), item.set);
          Item copy = item(t, 1, b, "copy");
          copy.set = line.set();
          copy.left = item.set;
        }
      }
      boolean last = p == t.blocks.size() - 1;
      boolean split = !last && block.end.equals("if") && to(b, 0) != to(b, 1);
      if (last || split) {
        Item end = item(t, last ? 3 : 2, b, block.end);
        end.left = names.getOrDefault(block.left, block.left);
        end.right = names.getOrDefault(block.right, block.right);
        if (split) {
          end.offWay = to(b, 0) == t.blocks.get(p + 1) ? 1 : 0;
          end.off = to(b, end.offWay);
        }
      }
    }
  }

  static Item item(Trace t, int sort, int block, String op) {
    Item item = new Item();
    item.sort = sort;
    item.block = block;
    item.op = op;
    item.kind = kindOf(op);
    t.items.add(item);
    return item;
  }

  int need(Trace t, int i, int j) {
    Item x = t.items.get(i);
    Item y = t.items.get(j);
    List<Integer> hold = new ArrayList<>();
    for (String r : new String[] {y.left, y.right}) {
      int last = -1;
      for (int k = 0; k < j; k++) {
        if (!r.isEmpty() && t.items.get(k).set.equals(r)) {
          last = k;
        }
      }
      if (last == i) {
        hold.add(now.latency[x.kind]);
      }
    }
    if (x.reads(y.set)) {
      hold.add(0);
    }
    if (!y.set.isEmpty() && x.set.equals(y.set)) {
      hold.add(Math.max(1, now.latency[x.kind] - now.latency[y.kind] + 1));
    }
    if (x.op.equals("store") && y.op.equals("load")) {
      hold.add(now.latency[x.kind]);
    }
    if (x.op.equals("load") && y.op.equals("store")) {
      hold.add(0);
    }
    if (x.op.equals("store") && y.op.equals("store")) {
      hold.add(1);
    }
    if (x.sort == 2) {
      boolean live = y.set.length() == 1 && (live(x.off) >> "abcdef".indexOf(y.set) & 1) == 1;
      if (y.sort == 2 || y.sort == 3 || y.op.equals("store") || live) {
        hold.add(1);
      }
    }
    if (y.sort == 3) {
      hold.add(0);
    }
    return hold.stream().max(Integer::compare).orElse(-2);
  }

  void heights(Trace t) {
    for (int i = t.items.size() - 1; i >= 0; i--) {
      for (int j = i + 1; j < t.items.size(); j++) {
        int need = need(t, i, j);
        if (need != -2) {
          t.items.get(i).height = Math.max(t.items.get(i).height, need + t.items.get(j).height);
        }
      }
    }
  }

  void list(Trace t, int[] units) {
    int n = t.items.size();
    int[][] needs = new int[n][n];
    for (int i = 0; i < n; i++) {
      t.items.get(i).cycle = -1;
      for (int j = i + 1; j < n; j++) {
        needs[i][j] = need(t, i, j);
      }
    }
    int laid = 0;
    for (int cycle = 0; laid < n; cycle++) {
      while (true) {
        int best = -1;
        for (int j = 0; j < n; j++) {
          boolean can = t.items.get(j).cycle < 0 && inCycle(t, cycle, t.items.get(j).kind) < units[t.items.get(j).kind];
          for (int i = 0; i < j; i++) {
            int c = t.items.get(i).cycle;
            can &= needs[i][j] == -2 || c >= 0 && c + needs[i][j] <= cycle;
          }
          if (can && (best < 0 || t.items.get(j).height > t.items.get(best).height)) {
            best = j;
          }
        }
        if (best < 0) {
          break;
        }
        t.items.get(best).cycle = cycle;
        laid++;
      }
    }
    t.length = t.items.get(n - 1).cycle + 1;
  }

  static int inCycle(Trace t, int cycle, int kind) {
    return (int) t.items.stream().filter(x -> x.cycle == cycle && x.kind == kind).count();
  }

  static boolean guess(Trace t, int i) {
    for (int s = 0; s < i; s++) {
      if (t.items.get(s).sort == 2 && t.items.get(i).cycle <= t.items.get(s).cycle) {
        return t.items.get(i).sort == 0;
      }
    }
    return false;
  }

  static List<Integer> copiedAt(Trace t, int s) {
    List<Integer> all = new ArrayList<>();
    for (int i = 0; i < s && t.items.get(s).sort == 2; i++) {
      if (t.items.get(i).cycle > t.items.get(s).cycle) {
        all.add(i);
      }
    }
    return all;
  }

  static int path(Trace t) {
    return 1 + t.items.stream().mapToInt(x -> x.height).max().orElse(0);
  }

  int floor(Trace t) {
    int floor = path(t);
    for (int k = 0; k < 4; k++) {
      int kind = k;
      double many = t.items.stream().filter(x -> x.kind == kind).count();
      floor = Math.max(floor, (int) Math.ceil(many / now.units[k]));
    }
    return floor;
  }

  int plain(Trace t) {
    return t.items.stream().filter(x -> x.sort != 1).mapToInt(x -> now.latency[x.kind]).sum();
  }

  static int guesses(Trace t) {
    int n = 0;
    for (int i = 0; i < t.items.size(); i++) {
      n += guess(t, i) ? 1 : 0;
    }
    return n;
  }

  static int copies(Trace t) {
    int n = 0;
    for (int i = 0; i < t.items.size(); i++) {
      n += copiedAt(t, i).size();
    }
    return n;
  }

  static int splits(Trace t) {
    return (int) t.items.stream().filter(x -> x.sort == 2).count();
  }

  int trace(int trace, int what) {
    Trace t = traceOr(trace);
    if (t == null) {
      return -1;
    }
    switch (what) {
      case 0: return t.blocks.size();
      case 1: return t.items.size();
      case 2: return t.length;
      case 3: return floor(t);
      case 4: return path(t);
      case 5: return splits(t);
      case 6: return t.renamed;
      case 7: return plain(t);
      case 8: return guesses(t);
      case 9: return copies(t);
      default: return -1;
    }
  }

  int member(int trace, int i) {
    Trace t = traceOr(trace);
    return t == null || i < 0 || i >= t.blocks.size() ? -1 : t.blocks.get(i);
  }

  static boolean hasItem(Trace t, int i) {
    return t != null && i >= 0 && i < t.items.size();
  }

  int item(int trace, int i, int what) {
    Trace t = traceOr(trace);
    if (!hasItem(t, i)) {
      return -1;
    }
    Item item = t.items.get(i);
    switch (what) {
      case 0: return item.sort;
      case 1: return item.cycle;
      case 2: return item.block;
      case 3: return item.kind;
      case 4: return item.height;
      case 5: return item.set.isEmpty() ? -2 : item.set.startsWith("fresh") ? Integer.parseInt(item.set.substring(5))
          : "abcdef".indexOf(item.set);
      case 6: return guess(t, i) ? 1 : 0;
      case 7: return copiedAt(t, i).size();
      case 8: return item.off;
      default: return -1;
    }
  }

  int needs(int trace, int i, int j) {
    Trace t = traceOr(trace);
    return hasItem(t, i) && hasItem(t, j) && i < j ? need(t, i, j) : -1;
  }

  int copied(int trace, int i, int k) {
    Trace t = traceOr(trace);
    if (!hasItem(t, i) || k < 0 || k >= copiedAt(t, i).size()) {
      return -1;
    }
    return copiedAt(t, i).get(k);
  }

  int busy(int trace, int cycle, int kind) {
    Trace t = traceOr(trace);
    return t == null || cycle < 0 || cycle >= t.length || kind < 0 || kind > 3 ? -1 : inCycle(t, cycle, kind);
  }

  // ---- runs

  Ran start() {
    Ran ran = new Ran();
    for (int r = 0; r < 6; r++) {
      ran.regs.put("abcdef".substring(r, r + 1), now.regs[r]);
    }
    ran.cells = now.cells.clone();
    return ran;
  }

  static int worth(Ran ran, String value) {
    return value.isEmpty() ? 0 : Character.isDigit(value.charAt(0)) ? Integer.parseInt(value) : ran.regs.get(value);
  }

  /** null: it faults. For a store: cell and value; else the value alone. */
  static int[] does(Ran ran, String op, String left, String right) {
    int x = worth(ran, left);
    int y = worth(ran, right);
    boolean cell = x >= 0 && x <= 7;
    switch (op) {
      case "+": return new int[] {x + y};
      case "-": return new int[] {x - y};
      case "*": return new int[] {x * y};
      case "/": return y == 0 ? null : new int[] {(int) ((long) x / y)};
      case "load": return cell ? new int[] {ran.cells[x]} : null;
      case "store": return cell ? new int[] {x, y} : null;
      case "copy": return new int[] {x};
      case "if": return new int[] {x < y ? 0 : 1};
      default: return new int[] {0};
    }
  }

  static void settle(Ran ran, String set, int[] what) {
    if (what.length == 2) {
      ran.cells[what[0]] = what[1];
    } else if (!set.isEmpty()) {
      ran.regs.put(set, what[0]);
    }
  }

  /** The next block, -1: it stops, -2: it faults. */
  int alone(Ran ran, int b) {
    Block block = blocks.get(b);
    ran.begun++;
    ran.begunOf[b]++;
    for (Line line : block.lines) {
      int[] what = does(ran, line.op(), line.left(), line.right());
      if (what == null) {
        return -2;
      }
      settle(ran, line.set(), what);
      ran.cycles += now.latency[kindOf(line.op())];
    }
    ran.cycles += now.latency[3];
    if (block.end.equals("stop")) {
      return -1;
    }
    int way = does(ran, block.end, block.left, block.right)[0];
    ran.goneOf[b][way]++;
    return to(b, way);
  }

  Ran slowRun() {
    Ran ran = start();
    int b = blocks.isEmpty() ? -1 : 0;
    while (b >= 0 && ran.begun < 200) {
      b = alone(ran, b);
    }
    ran.out = b == -1 ? 0 : b == -2 ? 1 : 2;
    return ran;
  }

  Ran fastRun() {
    Ran ran = start();
    List<Trace> all = traces();
    int b = blocks.isEmpty() ? -1 : 0;
    while (b >= 0 && ran.begun < 200) {
      Trace t = null;
      for (Trace x : all) {
        t = x.blocks.get(0) == b ? x : t;
      }
      int ahead = ran.cycles;
      b = t != null && ran.begun + t.blocks.size() <= 200 ? through(ran, t) : alone(ran, b);
      ran.cycles = b == -2 ? ahead : ran.cycles;
    }
    ran.out = b == -1 ? 0 : b == -2 ? 1 : 2;
    return ran;
  }

  int through(Ran ran, Trace t) {
    ran.traces++;
    int begun = ran.begun;
    ran.begun++;
    Set<Integer> held = new TreeSet<>();
    for (int cycle = 0; cycle < t.length; cycle++) {
      Map<Integer, int[]> found = new LinkedHashMap<>();
      for (int i = 0; i < t.items.size(); i++) {
        Item item = t.items.get(i);
        if (item.cycle == cycle) {
          int[] what = does(ran, item.op, item.left, item.right);
          if (what == null && !guess(t, i)) {
            return -2;
          }
          if (what == null) {
            int last = -1;
            for (int s = 0; s < i; s++) {
              last = t.items.get(s).sort == 2 ? s : last;
            }
            held.add(last);
          }
          found.put(i, what == null ? new int[] {0} : what);
        }
      }
      found.forEach((i, what) -> settle(ran, t.items.get(i).set, what));
      for (int i : found.keySet()) {
        Item item = t.items.get(i);
        int way = found.get(i)[0];
        if (item.sort == 2 && way == item.offWay) {
          ran.offs++;
          int cycles = cycle + 1;
          for (int c : copiedAt(t, i)) {
            Item copied = t.items.get(c);
            int[] what = does(ran, copied.op, copied.left, copied.right);
            if (what == null) {
              return -2;
            }
            settle(ran, copied.set, what);
            cycles += now.latency[copied.kind];
          }
          ran.cycles += cycles;
          ran.begun = begun + t.blocks.indexOf(item.block) + 1;
          return item.off;
        }
        if (item.sort == 2 && held.contains(i)) {
          return -2;
        }
        if (item.sort == 3) {
          ran.cycles += t.length;
          ran.begun = begun + t.blocks.size();
          return blocks.get(item.block).end.equals("stop") ? -1 : to(item.block, way);
        }
      }
    }
    throw new IllegalStateException();
  }

  int slow(int what) {
    Ran ran = slowRun();
    return what == 0 ? ran.out : what == 1 ? ran.cycles : what == 2 ? ran.begun : -1;
  }

  int fast(int what) {
    Ran ran = fastRun();
    return what == 0 ? ran.out : what == 1 ? ran.cycles : what == 2 ? ran.begun : what == 3 ? ran.traces
        : what == 4 ? ran.offs : -1;
  }

  int agrees() {
    Ran slow = slowRun();
    Ran fast = fastRun();
    boolean alike = slow.out == fast.out;
    if (alike && slow.out == 0) {
      alike = Arrays.equals(slow.cells, fast.cells);
      for (String r : "a b c d e f".split(" ")) {
        alike &= slow.regs.get(r).equals(fast.regs.get(r));
      }
    }
    return alike ? 1 : 0;
  }

  int left(int which) {
    Ran ran = fastRun();
    if (ran.out != 0 || which < 0 || which > 15 || which == 6 || which == 7) {
      return 0;
    }
    return which < 6 ? ran.regs.get("abcdef".substring(which, which + 1)) : ran.cells[which - 8];
  }

  // ---- by hand

  void note() {
    done.push(now.copy());
    if (done.size() > 40) {
      done.removeLast();
    }
  }

  boolean set(int r, int value) {
    if (r < 0 || r > 5 || now.regs[r] == value) {
      return false;
    }
    note();
    now.regs[r] = value;
    return true;
  }

  boolean put(int c, int value) {
    if (c < 0 || c > 7 || now.cells[c] == value) {
      return false;
    }
    note();
    now.cells[c] = value;
    return true;
  }

  int run() {
    Ran ran = slowRun();
    note();
    if (ran.out == 0) {
      for (int r = 0; r < 6; r++) {
        now.regs[r] = ran.regs.get("abcdef".substring(r, r + 1));
      }
      now.cells = ran.cells.clone();
    }
    for (int b = 0; b < 8; b++) {
      now.begun[b] += ran.begunOf[b];
      now.gone[b][0] += ran.goneOf[b][0];
      now.gone[b][1] += ran.goneOf[b][1];
    }
    return ran.out;
  }

  int clear() {
    int all = Arrays.stream(now.begun).sum();
    if (all == 0) {
      return -1;
    }
    note();
    now.begun = new int[8];
    now.gone = new int[8][2];
    return all;
  }

  boolean rename(boolean on) {
    if (now.renaming == on) {
      return false;
    }
    note();
    now.renaming = on;
    return true;
  }

  boolean units(int k, int many, int latency) {
    if (k < 0 || k > 3 || many < 1 || many > 4 || latency < 1 || latency > 6
        || now.units[k] == many && now.latency[k] == latency) {
      return false;
    }
    note();
    now.units[k] = many;
    now.latency[k] = latency;
    return true;
  }

  boolean undo() {
    if (done.isEmpty()) {
      return false;
    }
    now = done.pop();
    return true;
  }

  boolean hold(int slot) {
    if (slot < 0 || slot > 2) {
      return false;
    }
    slots[slot] = now.copy();
    return true;
  }

  boolean restore(int slot) {
    if (slot < 0 || slot > 2 || slots[slot] == null) {
      return false;
    }
    now = slots[slot].copy();
    done.clear();
    return true;
  }

  // ---- all together

  int sum(ToIntFunction<Trace> part) {
    return traces().stream().mapToInt(part).sum();
  }

  int size(int b) {
    return blocks.get(b).lines.size() + 1;
  }

  int growth(int what) {
    int all = 0;
    switch (what) {
      case 0:
        for (int b = 0; b < blocks.size(); b++) {
          all += size(b);
        }
        return all;
      case 1:
        for (int b = 0; b < blocks.size(); b++) {
          all += joined(b) ? size(b) : 0;
        }
        return all + sum(t -> t.items.size()) + sum(Model::copies);
      case 2:
        return sum(Model::splits);
      case 3:
        for (int b = 0; b < blocks.size(); b++) {
          all |= joined(b) ? 1 << b : 0;
        }
        return all;
      default:
        return -1;
    }
  }

  int saved(int kind) {
    if (kind < 0 || kind > 3) {
      return -1;
    }
    int all = 0;
    for (Trace t : traces()) {
      int length = t.length;
      int[] units = now.units.clone();
      units[kind] = Math.min(4, units[kind] + 1);
      list(t, units);
      all += (length - t.length) * now.begun[t.blocks.get(0)];
    }
    return all;
  }

  int count(int what) {
    switch (what) {
      case 0: return blocks.size();
      case 1: return blocks.stream().mapToInt(b -> b.lines.size()).sum();
      case 2: return now.renaming ? 1 : 0;
      case 3: return Arrays.stream(now.begun).sum();
      case 4: return sum(t -> t.length);
      case 5: return sum(this::floor);
      case 6: return sum(this::plain);
      case 7: return sum(Model::guesses);
      case 8: return tape.length();
      case 9: return done.size();
      case 10: return sum(t -> t.renamed);
      case 11: return (int) Arrays.stream(slots).filter(s -> s != null).count();
      default: return -1;
    }
  }
}
