import java.util.ArrayList;
import java.util.List;
import java.util.Random;

/** Random runs of 512 calls: FallingCalls answers as Model does. */
public final class ModelTests {
  private static final int RUNS = 600;
  private static final int CALLS = 512;

  private final Random random;
  private final FallingCalls real = new FallingCalls();
  private final Model model = new Model();
  private final List<String> rows = new ArrayList<>();
  private boolean wrong;

  private ModelTests(long seed) { random = new Random(seed * 0x9E3779B97F4A7C15L); }

  public static void main(String[] args) {
    int bad = 0;
    int runs = args.length > 0 ? Integer.parseInt(args[0]) : RUNS;
    for (int run = 0; run < runs && bad < 3; run++) {
      ModelTests t = new ModelTests(run);
      t.go();
      if (t.wrong) {
        bad++;
        System.out.println("seed " + run + ": " + String.join(" ", t.rows));
      }
    }
    System.out.println(bad == 0 ? "ModelTests: as the model" : "ModelTests: " + bad + " runs are not as the model");
    if (bad != 0) System.exit(1);
  }

  /** Texts cost many calls, so half of the runs have none. */
  private void go() {
    boolean texts = random.nextBoolean();
    if (!texts) for (int i = 0; i < 3; i++) grow();
    while (rows.size() < CALLS && !wrong) {
      if (texts && below(40) == 0) feedText();
      else if (below(40) == 0) feedSheet();
      else if (below(60) == 0) grow();
      else one();
    }
  }

  private void due(String row, int got, int want) {
    if (wrong) return;
    rows.add(row + "=" + got);
    if (got != want) {
      wrong = true;
      rows.add("due " + want);
    }
  }

  private int below(int n) { return random.nextInt(n); }

  /** Mostly within 0 .. n - 1, at times just outside or far off. */
  private int near(int n) {
    int r = below(40);
    if (r == 0) return -1;
    if (r == 1) return n;
    if (r == 2) return new int[] {Integer.MIN_VALUE, Integer.MAX_VALUE, -2, n + 1, 100}[below(5)];
    return below(Math.max(n, 1));
  }

  private void feed(String text) {
    for (int i = 0; i < text.length(); i++) {
      due("feed(" + (int) text.charAt(i) + ")", real.feed(text.charAt(i)), model.feed(text.charAt(i)));
    }
  }

  private void feedText() {
    if (below(4) > 0) due("end(0)", real.end(0), model.end(0));
    feed(aText());
    due("text()", real.text(), model.text());
    due("fault()", real.fault(), model.fault());
  }

  private String blank() { return below(12) == 0 ? "  " : ""; }

  private String aText() {
    StringBuilder b = new StringBuilder();
    int funs = 1 + below(below(20) == 0 ? 4 : 3);
    int[] arity = new int[funs];
    for (int f = 0; f < funs; f++) {
      arity[f] = 1 + below(2);
      b.append("fun").append(blank()).append(below(9) == 0 ? " 0" : "").append(arity[f]).append(blank()).append(";");
    }
    int calls = below(20) == 0 ? 14 : below(9);
    for (int c = 0; c < calls; c++) {
      int from = below(funs), to = below(funs);
      b.append("call").append(blank()).append(from).append(" ").append(blank()).append(to);
      for (int k = 0; k < arity[to]; k++) b.append(" ").append(anArgument(arity[from]));
      b.append(";");
    }
    if (below(3) == 0 && b.length() > 0) spoil(b);
    String s = b.toString();
    return s.length() > 160 && below(5) > 0 ? s.substring(0, s.lastIndexOf(';', 159) + 1) : s;
  }

  private void spoil(StringBuilder b) {
    String junk = " ;ab-+/&0123456789cfunl.?A{`\u0000\t\u007f:,~";
    int many = 1 + below(2);
    for (int i = 0; i < many && b.length() > 1; i++) {
      int at = below(b.length());
      char with = junk.charAt(below(junk.length()));
      switch (below(4)) {
        case 0 -> b.deleteCharAt(at);
        case 1 -> b.insert(at, with);
        case 2 -> b.setCharAt(at, with);
        default -> b.setLength(at);
      }
    }
  }

  private String anArgument(int arity) {
    String v = below(25) == 0 ? "b" : below(arity) == 0 ? "a" : "b";
    String w = below(25) == 0 ? "b" : below(arity) == 0 ? "a" : "b";
    int n = below(30) == 0 ? below(120) : below(3);
    return switch (below(7)) {
      case 0 -> "" + n;
      case 1 -> v;
      case 2, 3 -> v + blank() + "-" + blank() + n;
      case 4 -> v + "/" + blank() + (n + below(2));
      case 5 -> v + blank() + "+" + n;
      default -> v + blank() + "&" + w;
    };
  }

  /** Many functions and calls at once, so that there are many graphs. */
  private void grow() {
    int arity = below(4) == 0 ? 1 : 2;
    due("open(" + arity + ")", real.open(arity), model.open(arity));
    int funs = Math.max(1, model.rule(0));
    for (int i = 0; i < 4; i++) {
      int from = below(funs), to = below(funs);
      due("add(" + from + "," + to + ")", real.add(from, to), model.add(from, to));
    }
    for (int i = 0; i < 12; i++) oneSet(below(Math.max(1, model.rule(1))), below(2), aTold());
  }

  private int aTold() {
    if (below(12) == 0) return new int[] {-1, 10, 99, 200, 210, 401, 410, 500, 120, 320, 409, Integer.MIN_VALUE, 999, -100}[below(14)];
    return switch (below(7)) {
      case 0 -> below(10);
      case 1, 2 -> 100 + 10 * below(2) + below(2);
      case 3 -> 200 + 10 * below(2) + 1 + below(3);
      case 4 -> 300 + 10 * below(2) + below(2);
      case 5 -> 400;
      default -> 100 * below(4) + 10 * below(2) + below(10);
    };
  }

  private void oneSet(int c, int k, int a) {
    due("set(" + c + "," + k + "," + a + ")", real.set(c, k, a), model.set(c, k, a));
  }

  private void feedSheet() {
    int k = below(4), lane = below(5) == 0 ? 0 : 1 + below(2), n = below(10) == 0 ? below(41) : 3 * below(6) + below(2);
    due("sheet(" + k + "," + lane + "," + n + ")", real.sheet(k, lane, n), model.sheet(k, lane, n));
    for (int i = 0; i < n; i++) {
      int v = i % 3 == 0 ? below(Math.max(1, model.rule(1))) : i % 3 == 1 ? below(8) % 2 : aTold();
      due("lay(" + k + "," + i + "," + v + ")", real.lay(k, i, v), model.lay(k, i, v));
    }
    int f = below(3) == 0 ? below(4) : 0, many = below(8);
    int as = below(6) == 0 ? below(3) : lane;
    due("read(" + k + "," + as + "," + f + "," + many + ")", real.read(k, as, f, many), model.read(k, as, f, many));
    due("torn()", real.torn(), model.torn());
  }

  private void one() {
    int funs = model.rule(0), calls = model.rule(1);
    switch (below(30)) {
      case 0 -> { int w = near(8); due("rule(" + w + ")", real.rule(w), model.rule(w)); }
      case 1 -> { int f = near(funs), w = near(5); due("fun(" + f + "," + w + ")", real.fun(f, w), model.fun(f, w)); }
      case 2 -> { int c = near(calls), w = near(4); due("call(" + c + "," + w + ")", real.call(c, w), model.call(c, w)); }
      case 3 -> {
        int c = near(calls), k = near(2), w = near(3);
        due("argument(" + c + "," + k + "," + w + ")", real.argument(c, k, w), model.argument(c, k, w));
      }
      case 4, 5, 6 -> {
        int g = near(model.rule(2)), w = near(8);
        due("graph(" + g + "," + w + ")", real.graph(g, w), model.graph(g, w));
      }
      case 7, 8 -> { int g = near(model.rule(2)), k = near(1 + below(6)); due("word(" + g + "," + k + ")", real.word(g, k), model.word(g, k)); }
      case 9 -> {
        int f = near(funs), t = near(funs), c = near(81);
        due("find(" + f + "," + t + "," + c + ")", real.find(f, t, c), model.find(f, t, c));
      }
      case 10, 11 -> {
        int g = near(model.rule(2)), h = near(model.rule(2));
        due("compose(" + g + "," + h + ")", real.compose(g, h), model.compose(g, h));
      }
      case 12 -> { int f = near(funs); due("witness(" + f + ")", real.witness(f), model.witness(f)); }
      case 13 -> { if (below(4) == 0) { int a = near(3); due("open(" + a + ")", real.open(a), model.open(a)); } }
      case 14 -> { int f = near(funs), t = near(funs); due("add(" + f + "," + t + ")", real.add(f, t), model.add(f, t)); }
      case 15 -> { if (below(4) == 0) { int n = near(calls + 1); due("cut(" + n + ")", real.cut(n), model.cut(n)); } }
      case 16, 17, 18 -> oneSet(near(calls), near(2), aTold());
      case 19 -> due("spare()", real.spare(), model.spare());
      case 20 -> due("mend()", real.mend(), model.mend());
      case 21 -> due("loops()", real.loops(), model.loops());
      case 22, 23 -> {
        int f = near(funs), x = near(100), y = below(2) == 0 ? 0 : near(100), s = random.nextInt();
        due("run(" + f + "," + x + "," + y + "," + s + ")", real.run(f, x, y, s), model.run(f, x, y, s));
      }
      case 24 -> { int k = near(2); due("keep(" + k + ")", real.keep(k), model.keep(k)); }
      case 25 -> { int k = near(2); if (below(2) == 0) due("back(" + k + ")", real.back(k), model.back(k)); }
      case 26 -> {
        int k = near(4), l = near(3), n = near(41);
        due("sheet(" + k + "," + l + "," + n + ")", real.sheet(k, l, n), model.sheet(k, l, n));
      }
      case 27 -> {
        int k = near(4), i = near(41), v = random.nextInt();
        due("lay(" + k + "," + i + "," + v + ")", real.lay(k, i, v), model.lay(k, i, v));
      }
      case 28 -> {
        int k = near(4), l = near(3), f = near(38), n = near(14);
        due("read(" + k + "," + l + "," + f + "," + n + ")", real.read(k, l, f, n), model.read(k, l, f, n));
        due("torn()", real.torn(), model.torn());
      }
      default -> {
        int w = near(6);
        due("count(" + w + ")", real.count(w), model.count(w));
        int n = near(161);
        if (below(9) == 0) due("end(" + n + ")", real.end(n), model.end(n));
        int c = near(128);
        due("feed(" + c + ")", real.feed(c), model.feed(c));
      }
    }
  }
}
