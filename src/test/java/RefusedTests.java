import java.util.ArrayList;
import java.util.LinkedHashMap;
import java.util.List;
import java.util.Map;
import java.util.function.Supplier;
import java.util.function.ToIntFunction;

/** What is refused answers as told, the first that fits, and changes nothing that later calls could tell. */
public final class RefusedTests extends Checks {
  private static final Map<String, ToIntFunction<FallingCalls>> REFUSED = new LinkedHashMap<>();
  private static final List<Integer> ANSWERS = new ArrayList<>();

  public static void main(String[] args) {
    says("Answers: BAD -1 (a number is not as told, there is no such FUNCTION, CALL, ARGUMENT, GRAPH, IMAGE, SHEET), "
        + "STATE -2 (as told), FULL -3, NONE -4 (there is none), the first that fits; what is refused changes nothing");
    empty();
    within();
    full();
    refusedText();
    conclude("RefusedTests");
  }

  private static void refuse(int answer, String name, ToIntFunction<FallingCalls> call) {
    REFUSED.put(name, call);
    ANSWERS.add(answer);
  }

  /** Each refused call on an object of its own, which then answers as one that was not asked. */
  private static void compare(String state, Supplier<FallingCalls> make) {
    int i = 0;
    for (Map.Entry<String, ToIntFunction<FallingCalls>> e : REFUSED.entrySet()) {
      FallingCalls asked = make.get();
      due(state + ": " + e.getKey(), e.getValue().applyAsInt(asked), ANSWERS.get(i++));
      List<Integer> got = portrait(asked), want = portrait(make.get());
      due(state + ": answers behind " + e.getKey(), got.size(), want.size());
      for (int k = 0; k < Math.min(got.size(), want.size()); k++) {
        due(state + ": behind " + e.getKey() + ", answer " + k, got.get(k), want.get(k));
      }
    }
    REFUSED.clear();
    ANSWERS.clear();
  }

  /** All that can be asked within the calls that an object has; images, sheets and the tape at the end. */
  private static List<Integer> portrait(FallingCalls x) {
    List<Integer> all = new ArrayList<>();
    program(x, all);
    all.add(x.fault());
    all.add(x.torn());
    for (int w = 0; w < 6; w++) all.add(x.count(w));
    for (int k = 0; k < 2; k++) {
      all.add(x.back(k));
      for (int w = 0; w < 8; w++) all.add(x.rule(w));
      all.add(x.count(5));
    }
    for (int k = 0; k < 4; k++) sheet(x, k, all);
    all.add(x.text());
    all.add(x.fault());
    for (int w = 0; w < 8; w++) all.add(x.rule(w));
    return all;
  }

  private static void program(FallingCalls x, List<Integer> all) {
    for (int w = 0; w < 8; w++) all.add(x.rule(w));
    for (int f = 0; f < x.rule(0); f++) {
      for (int w = 0; w < 5; w++) all.add(x.fun(f, w));
      all.add(x.witness(f));
    }
    for (int c = 0; c < x.rule(1); c++) {
      for (int w = 0; w < 4; w++) all.add(x.call(c, w));
      for (int k = 0; k < 2; k++) for (int w = 0; w < 3; w++) all.add(x.argument(c, k, w));
    }
    for (int g = 0; g < Math.min(10, x.rule(2)); g++) all.add(x.graph(g, 2));
    all.add(x.spare());
    all.add(x.mend());
    all.add(x.loops());
  }

  /** Its lane and cells, by what comes of them. */
  private static void sheet(FallingCalls x, int k, List<Integer> all) {
    for (int lane = 0; lane < 3; lane++) {
      all.add(x.read(k, lane, 0, 2));
      all.add(x.torn());
    }
    for (int k2 = 0; k2 < 2; k2++) all.add(x.argument(0, k2, 2));
    all.add(x.lay(k, 5, 0));
    all.add(x.lay(k, 6, 0));
  }

  // ---- nothing is told

  private static void empty() {
    refuse(BAD, "feed(-1)", x -> x.feed(-1));
    refuse(BAD, "feed(128)", x -> x.feed(128));
    refuse(BAD, "end(1)", x -> x.end(1));
    refuse(BAD, "end(-1)", x -> x.end(-1));
    refuse(BAD, "rule(8)", x -> x.rule(8));
    refuse(BAD, "fun(0, 0)", x -> x.fun(0, 0));
    refuse(BAD, "call(0, 0)", x -> x.call(0, 0));
    refuse(BAD, "argument(0, 0, 0)", x -> x.argument(0, 0, 0));
    refuse(BAD, "graph(0, 0)", x -> x.graph(0, 0));
    refuse(BAD, "word(0, 0)", x -> x.word(0, 0));
    refuse(BAD, "find(0, 0, 0)", x -> x.find(0, 0, 0));
    refuse(BAD, "compose(0, 0)", x -> x.compose(0, 0));
    refuse(BAD, "witness(0)", x -> x.witness(0));
    refuse(BAD, "open(0)", x -> x.open(0));
    refuse(BAD, "open(3)", x -> x.open(3));
    refuse(BAD, "add(0, 0)", x -> x.add(0, 0));
    refuse(BAD, "cut(1)", x -> x.cut(1));
    refuse(BAD, "set(0, 0, 0)", x -> x.set(0, 0, 0));
    refuse(NONE, "spare()", FallingCalls::spare);
    refuse(NONE, "mend()", FallingCalls::mend);
    refuse(BAD, "run(0, 0, 0, 0)", x -> x.run(0, 0, 0, 0));
    refuse(STATE, "back(0)", x -> x.back(0));
    refuse(STATE, "back(1)", x -> x.back(1));
    refuse(-14, "sheet(0, 0, -1)", x -> x.sheet(0, 0, -1));
    refuse(-11, "lay(0, 0, 0)", x -> x.lay(0, 0, 0));
    refuse(NONE, "count(3)", x -> x.count(3));
    compare("empty", FallingCalls::new);
  }

  // ---- some of all

  /** Two functions, five calls, two of which loop; image 1; sheets 0 to 2; a fault and a torn read; a tape. */
  private static FallingCalls some() {
    FallingCalls x = new FallingCalls();
    tell(x, "fun 2;fun 1;call 0 0 b a;call 0 1 a-9;call 1 0 a a;");
    x.keep(1);
    put(x, 1, 1, 3);
    put(x, 1, 1, 100);
    x.set(0, 0, 112);
    for (int k = 0; k < 3; k++) {
      x.sheet(k, k, 6);
      x.lay(k, 2, 101);
      x.lay(k, 4, 1);
      x.lay(k, 5, 111);
    }
    tell(x, "fun 3;");
    x.read(0, 1, 0, 1);
    feed(x, "fun 1;call 0 0 a;");
    return x;
  }

  private static void within() {
    refuse(BAD, "feed(128)", x -> x.feed(128));
    refuse(BAD, "feed(-1)", x -> x.feed(-1));
    refuse(BAD, "end(18)", x -> x.end(18));
    refuse(BAD, "end(-1)", x -> x.end(-1));
    refuse(BAD, "fun(2, 0)", x -> x.fun(2, 0));
    refuse(BAD, "call(5, 0)", x -> x.call(5, 0));
    refuse(NONE, "argument(3, 0, 1)", x -> x.argument(3, 0, 1));
    refuse(BAD, "argument(3, 1, 1)", x -> x.argument(3, 1, 1));
    refuse(NONE, "graph(1, 5)", x -> x.graph(1, 5));
    refuse(NONE, "word(0, 1)", x -> x.word(0, 1));
    refuse(BAD, "word(0, -1)", x -> x.word(0, -1));
    refuse(NONE, "find(1, 0, 80)", x -> x.find(1, 0, 80));
    refuse(BAD, "find(1, 1, 81)", x -> x.find(1, 1, 81));
    refuse(NONE, "compose(1, 0)", x -> x.compose(1, 0));
    refuse(BAD, "witness(2)", x -> x.witness(2));
    refuse(BAD, "open(3)", x -> x.open(3));
    refuse(BAD, "add(0, 2)", x -> x.add(0, 2));
    refuse(BAD, "add(-1, 0)", x -> x.add(-1, 0));
    refuse(BAD, "cut(6)", x -> x.cut(6));
    refuse(BAD, "cut(-1)", x -> x.cut(-1));
    refuse(BAD, "set(0, 2, 0)", x -> x.set(0, 2, 0));
    refuse(BAD, "set(1, 0, 401)", x -> x.set(1, 0, 401));
    refuse(BAD, "set(2, 0, 400)", x -> x.set(2, 0, 400));
    refuse(BAD, "set(2, 1, 110)", x -> x.set(2, 1, 110));
    withinImagesAndSheets();
    compare("some", RefusedTests::some);
  }

  private static void withinImagesAndSheets() {
    refuse(NONE, "mend()", FallingCalls::mend);
    refuse(NONE, "spare()", FallingCalls::spare);
    refuse(BAD, "run(1, 1, 1, 0)", x -> x.run(1, 1, 1, 0));
    refuse(BAD, "run(0, 100, 0, 0)", x -> x.run(0, 100, 0, 0));
    refuse(BAD, "run(2, 0, 0, 0)", x -> x.run(2, 0, 0, 0));
    refuse(BAD, "keep(2)", x -> x.keep(2));
    refuse(BAD, "keep(-1)", x -> x.keep(-1));
    refuse(STATE, "back(0)", x -> x.back(0));
    refuse(BAD, "back(2)", x -> x.back(2));
    refuse(BAD, "sheet(0, 0, 41)", x -> x.sheet(0, 0, 41));
    refuse(BAD, "sheet(0, 3, 4)", x -> x.sheet(0, 3, 4));
    refuse(BAD, "sheet(4, 0, 4)", x -> x.sheet(4, 0, 4));
    refuse(-14, "sheet(1, 1, -1)", x -> x.sheet(1, 1, -1));
    refuse(-12, "lay(0, 6, 1)", x -> x.lay(0, 6, 1));
    refuse(-12, "lay(0, -1, 1)", x -> x.lay(0, -1, 1));
    refuse(-11, "lay(3, 0, 1)", x -> x.lay(3, 0, 1));
    refuse(BAD, "lay(4, 0, 1)", x -> x.lay(4, 0, 1));
    refuse(BAD, "read(0, 0, 0, 14)", x -> x.read(0, 0, 0, 14));
    refuse(BAD, "read(0, 3, 0, 1)", x -> x.read(0, 3, 0, 1));
    refuse(BAD, "read(4, 0, 0, 1)", x -> x.read(4, 0, 0, 1));
    refuse(-21, "read that set() refuses", x -> {
      x.lay(0, 3, 9);
      int answer = x.read(0, 0, 0, 2);
      x.lay(0, 3, 0);
      return answer;
    });
    refuse(BAD, "count(6)", x -> x.count(6));
  }

  // ---- as many as there may be

  /** Three functions, twelve calls, two images, four sheets, 160 bytes. */
  private static FallingCalls most() {
    FallingCalls x = opened(2, 1, 2);
    int[] told = {101, 110, 400, 0, 211, 309};
    for (int c = 0; c < 12; c++) put(x, c % 3, c * 7 / 3 % 3, c % 3 == 1 ? 100 : told[c % 6], c % 3 == 1 ? 101 : told[c / 2]);
    x.keep(0);
    x.set(0, 0, 9);
    x.keep(1);
    for (int k = 0; k < 4; k++) x.sheet(k, 2, 40);
    feed(x, wide("fun 1;fun 2;", 160));
    return x;
  }

  private static void full() {
    refuse(FULL, "feed(32)", x -> x.feed(32));
    refuse(BAD, "feed(128)", x -> x.feed(128));
    refuse(BAD, "end(161)", x -> x.end(161));
    refuse(FULL, "open(1)", x -> x.open(1));
    refuse(FULL, "open(2)", x -> x.open(2));
    refuse(BAD, "open(3)", x -> x.open(3));
    refuse(FULL, "add(0, 0)", x -> x.add(0, 0));
    refuse(FULL, "add(2, 1)", x -> x.add(2, 1));
    refuse(BAD, "add(3, 0)", x -> x.add(3, 0));
    refuse(BAD, "cut(13)", x -> x.cut(13));
    refuse(BAD, "set(12, 0, 0)", x -> x.set(12, 0, 0));
    refuse(BAD, "back(2)", x -> x.back(2));
    refuse(BAD, "sheet(0, 2, 41)", x -> x.sheet(0, 2, 41));
    refuse(-14, "sheet(0, 2, -1)", x -> x.sheet(0, 2, -1));
    refuse(-12, "lay(0, 40, 1)", x -> x.lay(0, 40, 1));
    refuse(BAD, "read(0, 2, 0, 14)", x -> x.read(0, 2, 0, 14));
    compare("full", RefusedTests::most);
  }

  // ---- a text that is refused: all but the tape and its fault is as it was

  private static void refusedText() {
    says("what is refused changes nothing (but THE TAPE, as told).");
    String[] texts = {"?", "fun 3;", "fun 1;fun 1;fun 1;call 0 0 a;call 1 2 9;foo", "fun 1;call 0 0", times(4, "fun 2;")};
    for (String text : texts) {
      FallingCalls asked = some(), other = some();
      asked.end(0);
      other.end(0);
      due("refused: " + text, tell(asked, text) <= -10 ? 1 : 0, 1);
      due("the tape is empty", asked.count(2), 0);
      tell(other, "?");
      tell(asked, "?");
      List<Integer> got = portrait(asked), want = portrait(other);
      for (int k = 0; k < want.size(); k++) due("behind text " + text + ", answer " + k, got.get(k), want.get(k));
    }
  }
}
