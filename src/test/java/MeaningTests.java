import java.util.ArrayList;
import java.util.BitSet;
import java.util.List;
import java.util.Random;

/**
 * What the answers mean, held against the calls themselves, without graphs COMPOSED: a FUNCTION that
 * ENDS comes to no state twice, and each cycle of calls that it comes to falls again and again; the
 * WORD of a witness is a cycle that does not.
 */
public final class MeaningTests extends Checks {
  private static final int PROGRAMS = 400;
  private static final int LONGEST_CYCLE = 5;
  private static final int MOST_START = 6;
  private static final int WIDTH = 1000;

  /** Arguments are told as by set(). */
  private record Call(int from, int to, int[] told) {}

  private final String name;
  private final int[] arities;
  private final List<Call> calls = new ArrayList<>();
  private final FallingCalls x;

  private MeaningTests(int seed) {
    Random random = new Random(seed * 0x9E3779B97F4A7C15L);
    name = "program " + seed;
    arities = new int[1 + random.nextInt(3)];
    for (int f = 0; f < arities.length; f++) arities[f] = 1 + random.nextInt(2);
    x = opened(arities);
    int many = 1 + random.nextInt(5);
    for (int c = 0; c < many; c++) {
      int from = random.nextInt(arities.length), to = random.nextInt(arities.length);
      int[] told = new int[arities[to]];
      for (int k = 0; k < told.length; k++) told[k] = anArgument(random, arities[from]);
      calls.add(new Call(from, to, told));
      put(x, from, to, told);
    }
  }

  public static void main(String[] args) {
    int ending = 0, others = 0;
    for (int seed = 0; seed < PROGRAMS; seed++) {
      MeaningTests t = new MeaningTests(seed);
      for (int f = 0; f < t.arities.length; f++) {
        if (t.x.fun(f, 3) == 1) {
          if (t.x.fun(f, 4) != 0) ending++;
          t.endsOnEveryInput(f);
          t.eachCycleFalls(f);
        } else {
          others++;
          t.witnessNeverFalls(f);
        }
      }
    }
    due("functions that call and end were seen", ending > 100 ? 1 : 0, 1);
    due("functions that do not end were seen", others > 100 ? 1 : 0, 1);
    conclude("MeaningTests");
  }

  private static int anArgument(Random random, int arity) {
    int value = 10 * random.nextInt(arity);
    return switch (random.nextInt(9)) {
      case 0 -> random.nextInt(10);
      case 1, 2, 3 -> 101 + value + random.nextInt(2);
      case 4 -> 201 + value + random.nextInt(2);
      case 5 -> 300 + value + random.nextInt(2);
      case 6 -> arity == 2 ? 400 : 100;
      default -> 100 + value;
    };
  }

  // ---- states: a function and its values, as one number

  private void endsOnEveryInput(int f) {
    says("A FUNCTION ENDS, if from none that it comes to by CALLS (itself, too) there is a LOOP.");
    BitSet open = new BitSet(), closed = new BitSet();
    for (int a = 0; a <= MOST_START; a++) {
      for (int b = 0; b <= (arities[f] == 2 ? MOST_START : 0); b++) {
        int start = (f * WIDTH + a) * WIDTH + b;
        due(name + ": a state twice from " + f + ": " + a + " " + b, comesTwice(start, open, closed) ? 1 : 0, 0);
      }
    }
  }

  /** Whether a way from a state on comes to one of its own states; ways are long, so there is no recursion. */
  private boolean comesTwice(int start, BitSet open, BitSet closed) {
    List<Integer> way = new ArrayList<>(List.of(start));
    while (!way.isEmpty()) {
      int state = way.get(way.size() - 1);
      if (closed.get(state) || open.get(state)) {
        open.clear(state);
        closed.set(state);
        way.remove(way.size() - 1);
        continue;
      }
      open.set(state);
      for (Call c : calls) {
        int next = c.from == state / WIDTH / WIDTH ? next(c, state / WIDTH % WIDTH, state % WIDTH) : -1;
        if (next >= 0 && open.get(next)) return true;
        if (next >= 0 && !closed.get(next)) way.add(next);
      }
    }
    return false;
  }

  /** The state behind a call, or -1: it is not made. */
  private static int next(Call c, int a, int b) {
    int state = c.to;
    for (int k = 0; k < 2; k++) {
      int worth = k < c.told.length ? worth(c.told[k], a, b) : 0;
      if (worth < 0) return -1;
      state = state * WIDTH + Math.min(worth, WIDTH - 1);
    }
    return state;
  }

  private static int worth(int told, int a, int b) {
    int value = told / 10 % 10 == 0 ? a : b;
    int number = told % 10;
    return switch (told / 100) {
      case 0 -> number;
      case 1 -> value - number;
      case 2 -> number > 1 && value == 0 ? -1 : value / number;
      case 3 -> value + number;
      default -> Math.min(a, b);
    };
  }

  // ---- cycles: what becomes of each value, round after round

  private void eachCycleFalls(int f) {
    says("It FALLS in VALUE i, if RELATION of i to i is 2.");
    int within = x.fun(f, 4) | 1 << f;
    for (Call first : calls) {
      if ((within >> first.from & 1) == 1) goOn(new ArrayList<>(List.of(first)));
    }
  }

  private void goOn(List<Call> way) {
    Call last = way.get(way.size() - 1);
    if (last.to == way.get(0).from) due(name + ": a cycle of " + way.size() + " that falls", falls(way) ? 1 : 0, 1);
    if (way.size() == LONGEST_CYCLE) return;
    for (Call c : calls) {
      if (c.from != last.to) continue;
      way.add(c);
      goOn(way);
      way.remove(way.size() - 1);
    }
  }

  private void witnessNeverFalls(int f) {
    says("The first LOOP that a FUNCTION comes to (or has)");
    int g = x.witness(f);
    List<Call> way = new ArrayList<>();
    for (int k = 0; k < x.graph(g, 3); k++) way.add(calls.get(x.word(g, k)));
    for (int k = 0; k < way.size(); k++) {
      due(name + ": call " + k + " goes to the next one, the last to the first", way.get(k).to, way.get((k + 1) % way.size()).from);
    }
    due(name + ": it comes there", (x.fun(f, 4) | 1 << f) >> way.get(0).from & 1, 1);
    due(name + ": it never falls", falls(way) ? 1 : 0, 0);
  }

  /** Whether a value, round after round of a cycle, comes to be itself again and falls on its way. */
  private static boolean falls(List<Call> cycle) {
    int nodes = 2 * cycle.size();
    int[][] best = new int[nodes][nodes];
    for (int p = 0; p < cycle.size(); p++) {
      for (int k = 0; k < cycle.get(p).told.length; k++) {
        for (int i = 0; i < 2; i++) best[2 * p + i][(2 * p + 2) % nodes + k] = relation(cycle.get(p).told[k], i);
      }
    }
    for (int m = 0; m < nodes; m++) {
      for (int i = 0; i < nodes; i++) {
        for (int k = 0; k < nodes; k++) {
          if (best[i][m] > 0 && best[m][k] > 0) best[i][k] = Math.max(best[i][k], Math.max(best[i][m], best[m][k]));
        }
      }
    }
    for (int i = 0; i < nodes; i++) if (best[i][i] == 2) return true;
    return false;
  }

  private static int relation(int told, int i) {
    if (told == 400) return 1;
    if (told < 100 || told / 10 % 10 != i) return 0;
    int same = told / 100 == 2 ? 1 : 0;
    if (told % 10 == same) return 1;
    return told / 100 == 3 ? 0 : 2;
  }
}
