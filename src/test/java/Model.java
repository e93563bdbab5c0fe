import java.util.ArrayList;
import java.util.Arrays;
import java.util.List;

/**
 * The document once more, in the slowest and plainest way, with the Java
 * library: what FallingCalls answers is held against it by ModelTests.
 */
public final class Model {
  static final int BAD = -1, STATE = -2, FULL = -3, NONE = -4;

  record Argument(int kind, int value, int number) {}

  record Call(int from, int to, List<Argument> arguments) {}

  record Told(List<Integer> arities, List<Call> calls) {
    Told copy() {
      List<Call> c = new ArrayList<>();
      for (Call x : calls) c.add(new Call(x.from, x.to, new ArrayList<>(x.arguments)));
      return new Told(new ArrayList<>(arities), c);
    }
  }

  record Graph(int from, int to, int[][] relation, List<Integer> word) {
    boolean same(Graph o) {
      return from == o.from && to == o.to && Arrays.deepEquals(relation, o.relation);
    }
    int code() {
      return relation[0][0] + 3 * relation[0][1] + 9 * relation[1][0] + 27 * relation[1][1];
    }
    boolean idle() { return from == to && then(this, List.of()).same(this); }
    int falls() { return (relation[0][0] == 2 ? 1 : 0) + (relation[1][1] == 2 ? 2 : 0); }
    boolean loop() { return idle() && falls() == 0; }
    boolean noneAbove(Graph o) {
      for (int i = 0; i < 2; i++) for (int k = 0; k < 2; k++) if (relation[i][k] > o.relation[i][k]) return false;
      return true;
    }
    Graph then(Graph o, List<Integer> w) {
      int[][] r = new int[2][2];
      for (int i = 0; i < 2; i++) for (int m = 0; m < 2; m++) for (int k = 0; k < 2; k++) {
        int p = relation[i][m], q = o.relation[m][k];
        if (p > 0 && q > 0) r[i][k] = Math.max(r[i][k], p == 2 || q == 2 ? 2 : 1);
      }
      return new Graph(from, o.to, r, w);
    }
  }

  static final class Fault extends RuntimeException {
    private static final long serialVersionUID = 1L;
    final int number, place;
    Fault(int number, int place) { super(null, null, false, false); this.number = number; this.place = place; }
  }

  private StringBuilder tape = new StringBuilder();
  private Told told = new Told(new ArrayList<>(), new ArrayList<>());
  private final Told[] images = new Told[2];
  private final Object[] sheets = new Object[4];
  private int fault, torn;

  // ---- the text

  public int feed(int c) {
    if (c < 0 || c > 127) return BAD;
    if (tape.length() == 160) return FULL;
    tape.append((char) c);
    return tape.length();
  }

  public int end(int n) {
    int had = tape.length();
    if (n < 0 || n > had) return BAD;
    tape.setLength(n);
    return had;
  }

  private int place, start;
  private String token;
  private Told draft;

  /** "" at the end. */
  private void next() {
    while (place < tape.length() && tape.charAt(place) == ' ') place++;
    String rest = tape.substring(place);
    start = place;
    token = rest.replaceFirst("(?s)^([a-z]+|[0-9]+|[-/+&;]|).*$", "$1");
    if (token.isEmpty() && !rest.isEmpty()) throw new Fault(1, start);
    if (token.matches("[0-9]{3,}")) throw new Fault(1, start);
    place += token.length();
  }

  private int number(int low, int high) {
    if (!token.matches("[0-9]+")) throw new Fault(2, start);
    int n = Integer.parseInt(token);
    if (n < low || n > high) throw new Fault(3, start);
    next();
    return n;
  }

  private int value(int arity) {
    if (!token.equals("a") && !token.equals("b")) throw new Fault(2, start);
    int v = token.equals("a") ? 0 : 1;
    if (v >= arity) throw new Fault(3, start);
    next();
    return v;
  }

  private Argument argument(int arity) {
    if (token.matches("[0-9]+")) return new Argument(0, 0, number(0, 9));
    int v = value(arity);
    String sign = token;
    if (!"-/+&".contains(sign) || sign.isEmpty()) return new Argument(1, v, 0);
    next();
    if (sign.equals("-")) return new Argument(1, v, number(0, 9));
    if (sign.equals("/")) return new Argument(2, v, number(1, 9));
    if (sign.equals("+")) return new Argument(3, v, number(0, 9));
    return value(arity) == v ? new Argument(1, v, 0) : new Argument(4, 0, 0);
  }

  private void line() {
    if (token.equals("fun")) {
      if (draft.arities.size() == 3) throw new Fault(5, start);
      next();
      draft.arities.add(number(1, 2));
    } else if (token.equals("call")) {
      if (draft.calls.size() == 12) throw new Fault(5, start);
      next();
      int from = number(0, draft.arities.size() - 1);
      int to = number(0, draft.arities.size() - 1);
      List<Argument> all = new ArrayList<>();
      while (all.size() < draft.arities.get(to)) all.add(argument(draft.arities.get(from)));
      draft.calls.add(new Call(from, to, all));
    } else {
      throw new Fault(2, start);
    }
    if (!token.equals(";")) throw new Fault(2, start);
    next();
  }

  public int text() {
    int lines = 0;
    draft = new Told(new ArrayList<>(), new ArrayList<>());
    place = 0;
    try {
      next();
      while (!token.isEmpty()) {
        line();
        lines++;
      }
    } catch (Fault f) {
      fault = f.number;
      tape.setLength(0);
      return -10 - f.place;
    }
    fault = 0;
    tape.setLength(0);
    told = draft;
    images[0] = null;
    images[1] = null;
    return lines;
  }

  public int fault() { return fault; }

  // ---- graphs

  static Graph graphOf(Told t, int c) {
    Call call = t.calls.get(c);
    int[][] r = new int[2][2];
    for (int i = 0; i < t.arities.get(call.from); i++) for (int k = 0; k < t.arities.get(call.to); k++) {
      Argument a = call.arguments.get(k);
      boolean own = a.value == i;
      boolean falls = own && (a.kind == 1 && a.number > 0 || a.kind == 2 && a.number > 1);
      boolean stays = a.kind == 4 || own && (a.kind == 1 && a.number == 0 || a.kind == 2 && a.number == 1
          || a.kind == 3 && a.number == 0);
      r[i][k] = falls ? 2 : stays ? 1 : 0;
    }
    return new Graph(call.from, call.to, r, List.of(c));
  }

  static int indexOf(List<Graph> all, Graph g) {
    for (int i = 0; i < all.size(); i++) if (all.get(i).same(g)) return i;
    return -1;
  }

  static List<Graph> graphs(Told t) {
    List<Graph> all = new ArrayList<>(), ofCalls = new ArrayList<>();
    for (int c = 0; c < t.calls.size(); c++) {
      Graph g = graphOf(t, c);
      ofCalls.add(g);
      if (indexOf(all, g) < 0) all.add(g);
    }
    for (int i = 0; i < all.size(); i++) for (int c = 0; c < ofCalls.size(); c++) {
      Graph g = all.get(i);
      if (ofCalls.get(c).from != g.to) continue;
      List<Integer> w = new ArrayList<>(g.word);
      w.add(c);
      Graph made = g.then(ofCalls.get(c), w);
      if (indexOf(all, made) < 0) all.add(made);
    }
    return all;
  }

  private static boolean needless(List<Graph> all, Graph g) {
    for (Graph h : all) if (h != g && h.from == g.from && h.to == g.to && h.noneAbove(g)) return true;
    return false;
  }

  /** Functions that f comes to by one call or more. */
  private static int comes(Told t, int f) {
    int bits = 0;
    for (int round = 0; round < 4; round++)
      for (Call c : t.calls) if (c.from == f || (bits >> c.from & 1) == 1) bits |= 1 << c.to;
    return bits;
  }

  private boolean together(int f, int g) {
    return f == g || (comes(told, f) >> g & 1) == 1 && (comes(told, g) >> f & 1) == 1;
  }

  private List<Integer> components() {
    List<Integer> number = new ArrayList<>();
    int next = 0;
    for (int f = 0; f < told.arities.size(); f++) {
      int of = -1;
      for (int g = 0; g < f; g++) if (together(f, g)) of = number.get(g);
      number.add(of >= 0 ? of : next++);
    }
    return number;
  }

  private static int loopOf(Told t, int f) {
    int within = comes(t, f) | 1 << f;
    List<Graph> all = graphs(t);
    for (int g = 0; g < all.size(); g++) if (all.get(g).loop() && (within >> all.get(g).from & 1) == 1) return g;
    return NONE;
  }

  private static boolean allEnd(Told t) {
    for (int f = 0; f < t.arities.size(); f++) if (loopOf(t, f) != NONE) return false;
    return true;
  }

  private boolean isFun(int f) { return f >= 0 && f < told.arities.size(); }

  private boolean isCall(int c) { return c >= 0 && c < told.calls.size(); }

  public int rule(int what) {
    List<Graph> all = graphs(told);
    return switch (what) {
      case 0 -> told.arities.size();
      case 1 -> told.calls.size();
      case 2 -> all.size();
      case 3 -> (int) all.stream().filter(Graph::idle).count();
      case 4 -> (int) all.stream().filter(Graph::loop).count();
      case 5 -> allEnd(told) ? 1 : 0;
      case 6 -> (int) components().stream().distinct().count();
      case 7 -> (int) all.stream().filter(g -> !needless(all, g)).count();
      default -> BAD;
    };
  }

  public int fun(int f, int what) {
    if (!isFun(f)) return BAD;
    return switch (what) {
      case 0 -> told.arities.get(f);
      case 1 -> (int) told.calls.stream().filter(c -> c.from == f).count();
      case 2 -> components().get(f);
      case 3 -> loopOf(told, f) == NONE ? 1 : 0;
      case 4 -> comes(told, f);
      default -> BAD;
    };
  }

  public int call(int c, int what) {
    if (!isCall(c)) return BAD;
    return switch (what) {
      case 0 -> told.calls.get(c).from;
      case 1 -> told.calls.get(c).to;
      case 2 -> graphOf(told, c).code();
      case 3 -> indexOf(graphs(told), graphOf(told, c));
      default -> BAD;
    };
  }

  public int argument(int c, int k, int what) {
    if (!isCall(c) || k < 0 || k >= told.calls.get(c).arguments.size()) return BAD;
    Argument a = told.calls.get(c).arguments.get(k);
    return switch (what) {
      case 0 -> a.kind;
      case 1 -> a.kind == 0 || a.kind == 4 ? NONE : a.value;
      case 2 -> a.number;
      default -> BAD;
    };
  }

  public int graph(int g, int what) {
    List<Graph> all = graphs(told);
    if (g < 0 || g >= all.size()) return BAD;
    Graph x = all.get(g);
    return switch (what) {
      case 0 -> x.from;
      case 1 -> x.to;
      case 2 -> x.code();
      case 3 -> x.word.size();
      case 4 -> x.idle() ? 1 : 0;
      case 5 -> x.from == x.to ? x.falls() : NONE;
      case 6 -> x.loop() ? 1 : 0;
      case 7 -> needless(all, x) ? 1 : 0;
      default -> BAD;
    };
  }

  public int word(int g, int k) {
    List<Graph> all = graphs(told);
    if (g < 0 || g >= all.size() || k < 0) return BAD;
    return k < all.get(g).word.size() ? all.get(g).word.get(k) : NONE;
  }

  public int find(int from, int to, int code) {
    if (!isFun(from) || !isFun(to) || code < 0 || code > 80) return BAD;
    List<Graph> all = graphs(told);
    for (int g = 0; g < all.size(); g++)
      if (all.get(g).from == from && all.get(g).to == to && all.get(g).code() == code) return g;
    return NONE;
  }

  public int compose(int g, int h) {
    List<Graph> all = graphs(told);
    if (g < 0 || g >= all.size() || h < 0 || h >= all.size()) return BAD;
    if (all.get(g).to != all.get(h).from) return NONE;
    return indexOf(all, all.get(g).then(all.get(h), List.of()));
  }

  public int witness(int f) { return isFun(f) ? loopOf(told, f) : BAD; }

  // ---- what is changed

  public int open(int arity) {
    if (arity != 1 && arity != 2) return BAD;
    if (told.arities.size() == 3) return FULL;
    told.arities.add(arity);
    return told.arities.size();
  }

  public int add(int from, int to) {
    if (!isFun(from) || !isFun(to)) return BAD;
    if (told.calls.size() == 12) return FULL;
    List<Argument> all = new ArrayList<>();
    for (int k = 0; k < told.arities.get(to); k++) all.add(new Argument(0, 0, 0));
    told.calls.add(new Call(from, to, all));
    return told.calls.size();
  }

  public int cut(int n) {
    int had = told.calls.size();
    if (n < 0 || n > had) return BAD;
    while (told.calls.size() > n) told.calls.remove(n);
    return had;
  }

  public int set(int c, int k, int a) {
    if (!isCall(c) || k < 0 || k >= told.calls.get(c).arguments.size()) return BAD;
    int arity = told.arities.get(told.calls.get(c).from);
    for (int kind = 0; kind < 5; kind++) for (int v = 0; v < arity; v++) for (int n = 0; n < 10; n++) {
      if (100 * kind + 10 * v + n != a) continue;
      if (kind == 0 && v != 0 || kind == 2 && n == 0) return BAD;
      if (kind == 4 && (v != 0 || n != 0 || arity < 2)) return BAD;
      Argument was = told.calls.get(c).arguments.set(k, new Argument(kind, v, n));
      return 100 * was.kind + 10 * was.value + was.number;
    }
    return BAD;
  }

  // ---- what is best

  public int spare() {
    if (allEnd(told)) return NONE;
    for (int c = 0; c < told.calls.size(); c++) {
      Told without = told.copy();
      without.calls.remove(c);
      if (allEnd(without)) return c;
    }
    return NONE;
  }

  public int mend() {
    if (allEnd(told)) return NONE;
    int best = Integer.MAX_VALUE;
    for (int c = 0; c < told.calls.size(); c++) {
      for (int k = 0; k < told.calls.get(c).arguments.size(); k++) {
        for (int v = 0; v < told.arities.get(told.calls.get(c).from); v++) {
          Told with = told.copy();
          with.calls.get(c).arguments.set(k, new Argument(1, v, 1));
          if (allEnd(with)) best = Math.min(best, 100 * c + 10 * k + v);
        }
      }
    }
    return best == Integer.MAX_VALUE ? NONE : best;
  }

  public int loops() {
    List<Graph> all = graphs(told);
    return (int) all.stream().filter(g -> g.loop() && !needless(all, g)).count();
  }

  // ---- runs

  private static boolean made(Call c, int[] values) {
    for (Argument a : c.arguments) {
      if (a.kind == 1 && values[a.value] < a.number) return false;
      if (a.kind == 2 && a.number > 1 && values[a.value] <= 0) return false;
    }
    return true;
  }

  private static int worth(Argument a, int[] values) {
    int w = switch (a.kind) {
      case 0 -> a.number;
      case 1 -> values[a.value] - a.number;
      case 2 -> values[a.value] / a.number;
      case 3 -> values[a.value] + a.number;
      default -> Math.min(values[0], values[1]);
    };
    return Math.min(w, 999);
  }

  public int run(int f, int x, int y, int seed) {
    if (!isFun(f) || x < 0 || x > 99 || y < 0 || y > 99 || told.arities.get(f) == 1 && y != 0) return BAD;
    int[] values = {x, y};
    int many = 0;
    while (true) {
      List<Call> can = new ArrayList<>();
      for (Call c : told.calls) if (c.from == f && made(c, values)) can.add(c);
      if (can.isEmpty()) return many;
      seed = seed * 1103515245 + 12345;
      Call c = can.get((seed >> 16 & 32767) % can.size());
      int[] then = new int[2];
      for (int k = 0; k < c.arguments.size(); k++) then[k] = worth(c.arguments.get(k), values);
      values = then;
      f = c.to;
      many++;
      if (many == 200) return NONE;
    }
  }

  // ---- images, sheets

  public int keep(int k) {
    if (k != 0 && k != 1) return BAD;
    int was = images[k] == null ? 0 : 1;
    images[k] = told.copy();
    return was;
  }

  public int back(int k) {
    if (k != 0 && k != 1) return BAD;
    if (images[k] == null) return STATE;
    told = images[k].copy();
    return told.calls.size();
  }

  public int sheet(int k, int lane, int n) {
    if (k < 0 || k > 3 || lane < 0 || lane > 2 || n > 40) return BAD;
    try {
      sheets[k] = lane == 0 ? new byte[n] : lane == 1 ? new short[n] : new int[n];
    } catch (NegativeArraySizeException e) {
      return -14;
    }
    return 1;
  }

  public int lay(int k, int i, int v) {
    if (k < 0 || k > 3) return BAD;
    try {
      Object s = sheets[k];
      if (s instanceof byte[] b) b[i] = (byte) v;
      else if (s instanceof short[] h) h[i] = (short) v;
      else ((int[]) s)[i] = v;
    } catch (NullPointerException e) {
      return -11;
    } catch (ArrayIndexOutOfBoundsException e) {
      return -12;
    }
    return 1;
  }

  private int cell(int k, int lane, int i) {
    if (lane == 0) return ((byte[]) sheets[k])[i];
    if (lane == 1) return ((short[]) sheets[k])[i];
    return ((int[]) sheets[k])[i];
  }

  public int read(int k, int lane, int f, int n) {
    if (k < 0 || k > 3 || lane < 0 || lane > 2 || n < 0 || n > 13) return BAD;
    Told was = told.copy();
    int came = 0, found = 0;
    try {
      for (; came < n; came++) {
        int c = cell(k, lane, f + 3 * came), which = cell(k, lane, f + 3 * came + 1), a = cell(k, lane, f + 3 * came + 2);
        if (set(c, which, a) == BAD) {
          told = was;
          return -20 - came;
        }
      }
    } catch (NullPointerException e) {
      found = 1;
    } catch (ArrayIndexOutOfBoundsException e) {
      found = 2;
    } catch (ClassCastException e) {
      found = 3;
    }
    torn = found;
    return came;
  }

  public int torn() { return torn; }

  public int count(int what) {
    return switch (what) {
      case 0 -> (images[0] == null ? 0 : 1) + (images[1] == null ? 0 : 1);
      case 1 -> (int) told.calls.stream().flatMap(c -> c.arguments.stream()).filter(a -> a.kind == 0).count();
      case 2 -> tape.length();
      case 3 -> sheets[0] == null ? NONE : java.lang.reflect.Array.getLength(sheets[0]);
      case 4 -> told.arities.stream().mapToInt(x -> x).sum();
      case 5 -> graphs(told).stream().mapToInt(Graph::code).sum();
      default -> BAD;
    };
  }
}
