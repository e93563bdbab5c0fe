import java.util.Arrays;

/** Each sentence of promises 1 to 29 that names a boundary case, with a test of its own. */
public final class PromiseBoundaryTests extends Checks {
  /** Below and above what there may be of anything. */
  private static final int[] FAR = {LEAST, -1000, -2, -1, 1000, MOST};

  public static void main(String[] args) {
    newObject();
    feedBytes();
    endOfTape();
    textIsTold();
    textIsRefused();
    faultOfText();
    ruleEdges();
    funEdges();
    callEdges();
    argumentEdges();
    argumentNone();
    graphEdges();
    graphNone();
    wordEdges();
    findEdges();
    composeEdges();
    witnessEdges();
    openEdges();
    addEdges();
    cutEdges();
    setEdges();
    setTold();
    spareFirst();
    spareNone();
    mendLeast();
    mendNone();
    loopsAlone();
    runStart();
    runSeeds();
    runChoices();
    runMostWorth();
    runEnds();
    keepEdges();
    backEdges();
    backState();
    sheetEdges();
    layEdges();
    layLowestBits();
    readEdges();
    readThreeCellsEach();
    readWhole();
    readRefusedBySet();
    tornEdges();
    countEdges();
    conclude("PromiseBoundaryTests");
  }

  // ---- the text

  private static void newObject() {
    says("No FUNCTIONS, no CALLS; SHEETS of nothing.");
    FallingCalls x = new FallingCalls();
    for (int w = 0; w < 8; w++) due("rule " + w, x.rule(w), w == 5 ? 1 : 0);
    for (int w = 0; w < 6; w++) due("count " + w, x.count(w), w == 3 ? NONE : 0);
    due("no function", x.fun(0, 0), BAD);
    due("no call", x.call(0, 0), BAD);
    due("no argument", x.argument(0, 0, 0), BAD);
    due("no graph", x.graph(0, 0), BAD);
    due("no word", x.word(0, 0), BAD);
    due("no witness", x.witness(0), BAD);
    due("no run", x.run(0, 0, 0, 0), BAD);
    due("none to spare", x.spare(), NONE);
    due("none to mend", x.mend(), NONE);
    due("no loops", x.loops(), 0);
    due("no call to cut", x.cut(0), 0);
    due("no bytes", x.end(0), 0);
    due("no fault", x.fault(), 0);
    due("nothing torn", x.torn(), 0);
    for (int k = 0; k < 2; k++) due("no image", x.back(k), STATE);
    for (int k = 0; k < 4; k++) due("a sheet of nothing", x.lay(k, 0, 0), -11);
    due("an empty text", x.text(), 0);
  }

  private static void feedBytes() {
    says("A byte (0 to 127) comes behind THE TAPE: how many it has. BAD; FULL: more than 160.");
    FallingCalls x = new FallingCalls();
    due("-1", x.feed(-1), BAD);
    due("128", x.feed(128), BAD);
    for (int c : FAR) due("" + c, x.feed(c), BAD);
    due("none came", x.count(2), 0);
    due("0", x.feed(0), 1);
    due("127", x.feed(127), 2);
    for (int i = 3; i <= 160; i++) due("byte " + i, x.feed(32), i);
    due("the 161st", x.feed(32), FULL);
    due("still 160", x.count(2), 160);
    due("BAD comes first", x.feed(128), BAD);
    x.end(159);
    due("there is room again", x.feed(32), 160);
    due("and no more", x.feed(32), FULL);
  }

  private static void endOfTape() {
    says("THE TAPE keeps its first n bytes: how many it had. BAD.");
    FallingCalls x = new FallingCalls();
    due("0 of none", x.end(0), 0);
    due("1 of none", x.end(1), BAD);
    feed(x, "fun 1;?");
    due("-1", x.end(-1), BAD);
    due("one above", x.end(8), BAD);
    for (int n : FAR) due("" + n, x.end(n), BAD);
    due("all stay", x.end(7), 7);
    due("one goes", x.end(6), 7);
    due("the first stay", x.text(), 1);
    feed(x, wide("fun 2;", 160));
    due("161 of 160", x.end(161), BAD);
    due("160 of 160", x.end(160), 160);
    due("none stay", x.end(0), 160);
    due("it is empty", x.count(2), 0);
  }

  private static void textIsTold() {
    says("THE TAPE (empty then) tells all: how many lines");
    FallingCalls x = new FallingCalls();
    due("no line", x.text(), 0);
    due("one", tell(x, "fun 1;"), 1);
    due("it is empty then", x.count(2), 0);
    due("told again it has none", x.text(), 0);
    due("and so there is none", x.rule(0), 0);
    due("15, the most", tell(x, times(3, "fun 1;") + times(12, "call 0 0 1;")), 15);
    due("all functions", x.rule(0), 3);
    due("all calls", x.rule(1), 12);
  }

  private static void textIsRefused() {
    says("-10 less the place of its FAULT: that which was told stays.");
    FallingCalls x = told("fun 2;call 0 0 b a;");
    x.keep(1);
    due("place 0", tell(x, "?"), -10);
    due("it is empty then", x.count(2), 0);
    due("place 159", tell(x, wide("fun 1;", 159) + "?"), -169);
    due("the length of 160", tell(x, wide("fun 1", 160)), -170);
    due("it is empty then", x.count(2), 0);
    due("behind lines that are whole", tell(x, "fun 1;fun 1;fun 1;call 0 0 a;foo"), -39);
    due("functions stay", x.rule(0), 1);
    due("calls stay", x.rule(1), 1);
    due("graphs stay", x.rule(2), 2);
    due("arguments stay", x.argument(0, 0, 1), 1);
    due("images stay", x.back(1), 1);
    due("the next text is taken", tell(x, "fun 1;"), 1);
  }

  private static void faultOfText() {
    says("The FAULT of the latest text(); 0.");
    FallingCalls x = new FallingCalls();
    due("none as yet", x.fault(), 0);
    String[] texts = {"?", "", "fun", "fun 1;", "fun 3;", times(4, "fun 1;"), ""};
    int[] faults = {1, 0, 2, 0, 3, 5, 0};
    for (int i = 0; i < texts.length; i++) {
      tell(x, texts[i]);
      due("of " + texts[i], x.fault(), faults[i]);
      due("asked again", x.fault(), faults[i]);
    }
    tell(x, "?");
    feed(x, "fun 1;");
    x.end(0);
    x.read(0, 0, 0, 1);
    due("of text() alone", x.fault(), 1);
  }

  private static void ruleEdges() {
    says("5 whether all FUNCTIONS END (1, 0), 6 COMPONENTS, 7 GRAPHS that are not NEEDLESS. BAD.");
    FallingCalls x = told("fun 1;fun 1;call 0 0 a-1;");
    due("all end", x.rule(5), 1);
    put(x, 1, 1, 100);
    due("one does not", x.rule(5), 0);
    due("what -1", x.rule(-1), BAD);
    due("what 8", x.rule(8), BAD);
    for (int w : FAR) due("what " + w, x.rule(w), BAD);
    due("BAD of an empty one", new FallingCalls().rule(8), BAD);
  }

  private static void funEdges() {
    says("3 whether it ENDS (1, 0), 4 to which it comes by one CALL or more (bits). BAD.");
    FallingCalls x = told("fun 1;fun 2;fun 1;call 0 1 a a;call 1 2 b;");
    due("by one or two", x.fun(0, 4), 6);
    due("not to itself", x.fun(1, 4), 4);
    due("to none", x.fun(2, 4), 0);
    put(x, 2, 0, 100);
    due("to all, itself too", x.fun(1, 4), 7);
    says("1 how many CALLS are from it");
    due("none", told("fun 1;").fun(0, 1), 0);
    due("one to another", told("fun 1;fun 1;call 0 1 a;").fun(0, 1), 1);
    due("none from another", told("fun 1;fun 1;call 0 1 a;").fun(1, 1), 0);
    due("twelve", told("fun 1;" + times(12, "call 0 0 a;")).fun(0, 1), 12);
    says("Of a FUNCTION: 0 ARITY");
    due("no function 3", x.fun(3, 0), BAD);
    due("what -1", x.fun(0, -1), BAD);
    due("what 5", x.fun(2, 5), BAD);
    for (int far : FAR) {
      due("function " + far, x.fun(far, 0), BAD);
      due("what " + far, x.fun(0, far), BAD);
    }
    due("no second yet", opened(1).fun(1, 0), BAD);
  }

  private static void callEdges() {
    says("Of a CALL: 0 from, 1 to, 2 the CODE of its GRAPH, 3 which GRAPH that is. BAD.");
    FallingCalls x = told("fun 1;call 0 0 a;call 0 0 a-1;");
    due("the last", x.call(1, 3), 1);
    due("no call 2", x.call(2, 0), BAD);
    due("what -1", x.call(0, -1), BAD);
    due("what 4", x.call(1, 4), BAD);
    for (int far : FAR) {
      due("call " + far, x.call(far, 0), BAD);
      due("what " + far, x.call(0, far), BAD);
    }
    x.cut(1);
    due("one that was cut", x.call(1, 0), BAD);
    for (int i = 1; i < 12; i++) x.add(0, 0);
    due("the 12th", x.call(11, 3), 1);
    due("no 13th", x.call(12, 3), BAD);
  }

  private static void argumentEdges() {
    says("Of an ARGUMENT k of a CALL: 0 KIND");
    FallingCalls x = told("fun 2;fun 1;call 0 1 b-9;call 1 0 a a/9;");
    due("the only one", x.argument(0, 0, 2), 9);
    due("no second", x.argument(0, 1, 2), BAD);
    due("the second", x.argument(1, 1, 2), 9);
    due("no third", x.argument(1, 2, 2), BAD);
    due("no call 2", x.argument(2, 0, 0), BAD);
    due("what -1", x.argument(0, 0, -1), BAD);
    due("what 3", x.argument(0, 0, 3), BAD);
    for (int far : FAR) {
      due("call " + far, x.argument(far, 0, 0), BAD);
      due("argument " + far, x.argument(1, far, 0), BAD);
      due("what " + far, x.argument(1, 0, far), BAD);
    }
  }

  private static void argumentNone() {
    says("1 VALUE (NONE of KINDS 0, 4), 2 NUMBER (0 of KIND 4). BAD.");
    FallingCalls x = opened(2);
    put(x, 0, 0, 9, 400);
    row("kind 0", new int[] {x.argument(0, 0, 0), x.argument(0, 0, 1), x.argument(0, 0, 2)}, 0, NONE, 9);
    row("kind 4", new int[] {x.argument(0, 1, 0), x.argument(0, 1, 1), x.argument(0, 1, 2)}, 4, NONE, 0);
    for (int kind = 1; kind < 4; kind++) {
      x.set(0, 0, 100 * kind + 1);
      x.set(0, 1, 100 * kind + 19);
      row("a", new int[] {x.argument(0, 0, 0), x.argument(0, 0, 1), x.argument(0, 0, 2)}, kind, 0, 1);
      row("b", new int[] {x.argument(0, 1, 0), x.argument(0, 1, 1), x.argument(0, 1, 2)}, kind, 1, 9);
    }
    x.set(0, 0, 0);
    due("BAD comes before NONE", x.argument(0, 0, 3), BAD);
  }

  private static void graphEdges() {
    says("6 whether it is a LOOP, 7 whether it is NEEDLESS. BAD.");
    FallingCalls x = told("fun 1;call 0 0 a;call 0 0 a-1;");
    due("the first is a loop", x.graph(0, 6), 1);
    due("the last is needless", x.graph(1, 7), 1);
    due("no graph 2", x.graph(2, 0), BAD);
    due("what -1", x.graph(0, -1), BAD);
    due("what 8", x.graph(1, 8), BAD);
    for (int far : FAR) {
      due("graph " + far, x.graph(far, 0), BAD);
      due("what " + far, x.graph(0, far), BAD);
    }
    x.cut(1);
    due("one that there was", x.graph(1, 0), BAD);
    x.cut(0);
    due("none at all", x.graph(0, 0), BAD);
  }

  private static void graphNone() {
    says("5 in which VALUES it FALLS (bits; NONE: it is not from a FUNCTION to itself)");
    FallingCalls x = told("fun 2;fun 2;call 0 1 a-1 b-1;call 1 0 a b;");
    due("to another", x.graph(0, 5), NONE);
    due("from another", x.graph(1, 5), NONE);
    due("to itself", x.graph(x.compose(0, 1), 5), 3);
    due("in none", told("fun 1;call 0 0 a;").graph(0, 5), 0);
    due("what 8 is BAD, not NONE", x.graph(0, 8), BAD);
  }

  private static void wordEdges() {
    says("The k-th CALL (0 on) of the WORD of a GRAPH. BAD; NONE: it is not so long.");
    FallingCalls x = told("fun 2;call 0 0 b a;");
    due("the first of one", x.word(0, 0), 0);
    due("no second of one", x.word(0, 1), NONE);
    due("the second of two", x.word(1, 1), 0);
    due("no third of two", x.word(1, 2), NONE);
    due("far", x.word(1, MOST), NONE);
    due("-1", x.word(1, -1), BAD);
    due("least", x.word(1, LEAST), BAD);
    due("no graph 2", x.word(2, 0), BAD);
    for (int far : FAR) due("graph " + far, x.word(far, 0), BAD);
    due("BAD comes first", x.word(2, MOST), BAD);
  }

  private static void findEdges() {
    says("Which GRAPH has from, to, CODE (0 to 80). BAD; NONE: none.");
    FallingCalls x = told("fun 2;fun 1;call 0 0 a&b a&b;call 0 0 a-1 b-1;call 1 1 1;");
    due("code 80", x.graph(x.find(0, 0, 80), 2), 80);
    due("code 0", x.find(1, 1, 0), 2);
    due("no code 0", x.find(0, 0, 0), NONE);
    due("not there", x.find(1, 1, 80), NONE);
    due("no way", x.find(0, 1, 0), NONE);
    due("code 81", x.find(0, 0, 81), BAD);
    due("code -1", x.find(0, 0, -1), BAD);
    due("from 2", x.find(2, 0, 0), BAD);
    due("to 2", x.find(0, 2, 0), BAD);
    for (int far : FAR) {
      due("from " + far, x.find(far, 0, 80), BAD);
      due("to " + far, x.find(0, far, 80), BAD);
      due("code " + far, x.find(0, 0, far), BAD);
    }
    due("BAD comes first", x.find(0, 1, 81), BAD);
  }

  private static void composeEdges() {
    says("Which GRAPH two are, COMPOSED. BAD; NONE: the second one is not from where the first goes to.");
    FallingCalls x = told("fun 1;fun 1;call 0 1 a;call 1 1 a-1;");
    due("0 then 1", x.compose(0, 1), 2);
    due("1 then 1", x.compose(1, 1), 1);
    due("0 then 0", x.compose(0, 0), NONE);
    due("1 then 0", x.compose(1, 0), NONE);
    due("no first", x.compose(3, 0), BAD);
    due("no second", x.compose(0, 3), BAD);
    for (int far : FAR) {
      due("first " + far, x.compose(far, 0), BAD);
      due("second " + far, x.compose(0, far), BAD);
    }
  }

  private static void witnessEdges() {
    says("The first LOOP that a FUNCTION comes to (or has): which GRAPH it is. BAD; NONE: it ENDS.");
    FallingCalls x = told("fun 1;fun 1;fun 1;call 2 2 a-1;call 1 1 a;call 0 0 a+1;call 0 1 a;");
    due("the first, that it comes to", x.witness(0), 1);
    due("that it has", x.witness(1), 1);
    due("it ends", x.witness(2), NONE);
    due("no function 3", x.witness(3), BAD);
    for (int far : FAR) due("function " + far, x.witness(far), BAD);
    due("the 0th graph", told("fun 1;call 0 0 a;").witness(0), 0);
    due("no calls", opened(1).witness(0), NONE);
  }

  // ---- what is changed

  private static void openEdges() {
    says("A FUNCTION more: how many there are. BAD; FULL.");
    FallingCalls x = new FallingCalls();
    due("arity 0", x.open(0), BAD);
    due("arity 3", x.open(3), BAD);
    for (int far : FAR) due("arity " + far, x.open(far), BAD);
    due("none came", x.rule(0), 0);
    due("arity 1", x.open(1), 1);
    due("arity 2", x.open(2), 2);
    due("the third", x.open(2), 3);
    due("the fourth", x.open(2), FULL);
    due("BAD comes first", x.open(3), BAD);
    due("three", x.rule(0), 3);
    x = told(times(3, "fun 1;"));
    due("full by a text", x.open(1), FULL);
    x = told("fun 2;call 0 0 a b-1;");
    due("behind a text", x.open(1), 2);
    due("calls stay", x.rule(1), 1);
  }

  private static void addEdges() {
    says("A CALL more, its ARGUMENTS the NUMBER 0: how many there are. BAD; FULL.");
    FallingCalls x = new FallingCalls();
    due("no function", x.add(0, 0), BAD);
    x.open(2);
    x.open(1);
    due("from 2", x.add(2, 0), BAD);
    due("to 2", x.add(0, 2), BAD);
    for (int far : FAR) {
      due("from " + far, x.add(far, 0), BAD);
      due("to " + far, x.add(0, far), BAD);
    }
    due("none came", x.rule(1), 0);
    for (int i = 1; i <= 12; i++) due("call " + i, x.add(i % 2, 0), i);
    due("the 13th", x.add(0, 0), FULL);
    due("BAD comes first", x.add(2, 0), BAD);
    due("all are numbers", x.count(1), 24);
    for (int k = 0; k < 2; k++) due("it is 0", x.argument(11, k, 2), 0);
    for (int k = 0; k < 2; k++) x.set(11, k, 109);
    x.cut(11);
    due("again", x.add(0, 0), 12);
    for (int k = 0; k < 2; k++) due("it is 0 again", x.set(11, k, 1), 0);
    due("full by a text", told("fun 1;" + times(12, "call 0 0 a;")).add(0, 0), FULL);
    x = told("fun 1;call 0 0 a-1;");
    due("graphs before", x.rule(2), 1);
    x.add(0, 0);
    due("graphs behind", x.rule(2), 2);
    due("it does not end", x.rule(5), 0);
  }

  private static void cutEdges() {
    says("CALLS are the first n alone: how many there were. BAD.");
    FallingCalls x = opened(1);
    due("0 of none", x.cut(0), 0);
    due("1 of none", x.cut(1), BAD);
    for (int i = 0; i < 12; i++) put(x, 0, 0, i < 6 ? 101 : 100);
    due("13 of 12", x.cut(13), BAD);
    due("-1", x.cut(-1), BAD);
    for (int far : FAR) due("" + far, x.cut(far), BAD);
    due("12 of 12", x.cut(12), 12);
    due("7 of 12", x.cut(7), 12);
    due("it does not end", x.rule(5), 0);
    due("two graphs", x.rule(2), 2);
    due("8 of 7", x.cut(8), BAD);
    due("6 of 7", x.cut(6), 7);
    due("it ends", x.rule(5), 1);
    due("none", x.cut(0), 6);
    due("functions stay", x.rule(0), 1);
    due("one more is the first", x.add(0, 0), 1);
  }

  private static void setEdges() {
    says("ARGUMENT k of a CALL becomes a");
    FallingCalls x = told("fun 2;fun 1;call 0 1 1;call 1 0 1 1;");
    due("no call 2", x.set(2, 0, 0), BAD);
    due("no second argument", x.set(0, 1, 0), BAD);
    due("no third argument", x.set(1, 2, 0), BAD);
    for (int far : FAR) {
      due("call " + far, x.set(far, 0, 0), BAD);
      due("argument " + far, x.set(1, far, 0), BAD);
      due("to " + far, x.set(0, 0, far), BAD);
    }
    due("none came", x.count(1), 3);
    due("graphs before", x.count(5), 0);
    due("the second of two", x.set(1, 1, 100), 1);
    due("the first is as it was", x.set(1, 0, 100), 1);
    due("graphs follow", x.count(5), 4);
  }

  /** Each number near those that are told, of an argument of two values and of one. */
  private static void setTold() {
    says("told as 100 times KIND, 10 times VALUE (0 of KINDS 0, 4), and NUMBER (0 of KIND 4): what it was, told so. BAD.");
    for (int arity = 1; arity <= 2; arity++) {
      FallingCalls x = opened(arity);
      put(x, 0, 0, 7);
      int was = 7;
      for (int a = -20; a < 520; a++) {
        if (a % 120 == 100) {
          x = opened(arity);
          put(x, 0, 0, was);
        }
        due("arity " + arity + ", to " + a, x.set(0, 0, a), isTold(a, arity) ? was : BAD);
        if (isTold(a, arity)) was = a;
      }
    }
  }

  private static boolean isTold(int a, int arity) {
    if (a < 0 || a > 400) return false;
    if (a < 100) return a < 10;
    if (a == 400) return arity == 2;
    if (a % 100 >= 10 * arity) return false;
    return a < 200 || a >= 300 || a % 10 > 0;
  }

  // ---- what is best

  private static void spareFirst() {
    says("The CALL without which all FUNCTIONS END (they do not now), the first.");
    due("the 0th", told("fun 1;call 0 0 a;call 0 0 a-1;").spare(), 0);
    FallingCalls x = opened(1);
    for (int i = 0; i < 11; i++) put(x, 0, 0, 101);
    put(x, 0, 0, 100);
    due("the 12th of 12", x.spare(), 11);
    x = told("fun 1;fun 1;fun 1;call 0 0 a-1;call 0 1 a;call 1 2 a;call 2 0 a;");
    due("the first of three", x.spare(), 1);
    due("it is there still", x.rule(1), 4);
    due("and does not end", x.rule(5), 0);
    spareAmongOthers();
  }

  /** Calls of many sorts stand behind the one that goes: each is as it was. */
  private static void spareAmongOthers() {
    says("The CALL without which all FUNCTIONS END");
    int[][] sorts = {{0, 0, 101, 110}, {0, 1, 110, 101}, {1, 0, 110, 100}, {2, 0, 100, 0}, {1, 2, 111}, {2, 2, 101}, {1, 1, 100, 111}};
    for (int at = 0; at <= sorts.length; at++) {
      FallingCalls x = opened(2, 2, 1);
      due("they end", x.spare(), NONE);
      for (int i = 0; i < at; i++) sort(x, sorts[i]);
      int loop = put(x, 0, 0, 0, 110);
      for (int i = at; i < sorts.length; i++) sort(x, sorts[i]);
      due("the loop at " + at, x.spare(), loop);
      due("all are there", x.rule(1), 8);
      x.set(loop, 0, 101);
      due("they end, if it falls", x.spare(), NONE);
    }
    FallingCalls x = told("fun 1;fun 1;call 0 1 a;call 0 0 a-1;call 1 0 1;call 0 1 a-1;");
    due("the second that all loops have", x.spare(), 2);
    x = told("fun 1;fun 1;fun 1;call 0 1 a;call 1 2 a;call 2 0 1;call 0 2 a;");
    due("the third", x.spare(), 2);
    x = opened(1, 1);
    put(x, 0, 1, 100);
    put(x, 0, 1, 201);
    put(x, 1, 0, 100);
    due("not the first, for the second is as it", x.spare(), 2);
    put(x, 1, 0, 300);
    due("nor any, for there are two of each", x.spare(), NONE);
  }

  private static void sort(FallingCalls x, int[] fromToArguments) {
    put(x, fromToArguments[0], fromToArguments[1], Arrays.copyOfRange(fromToArguments, 2, fromToArguments.length));
  }

  private static void spareNone() {
    says("NONE: they do, or by none.");
    due("no function", new FallingCalls().spare(), NONE);
    due("no call", opened(2).spare(), NONE);
    due("they do", told("fun 1;call 0 0 a-1;").spare(), NONE);
    due("by none", told("fun 1;call 0 0 a;call 0 0 a+1;").spare(), NONE);
    due("by none of two functions", told("fun 1;fun 1;call 0 0 a;call 1 1 a;").spare(), NONE);
  }

  private static void mendLeast() {
    says("100 times the CALL, 10 times the ARGUMENT, and the VALUE, of several the least.");
    due("0 of several", told("fun 2;call 0 0 a b;").mend(), 0);
    due("b to argument 0", told("fun 2;fun 1;call 0 1 1;call 1 0 1 a;").mend(), 1);
    due("argument 1", told("fun 1;fun 2;call 0 1 1 1;call 1 0 b;").mend(), 10);
    due("call 1", told("fun 1;call 0 0 a-1;call 0 0 a;").mend(), 100);
    FallingCalls x = opened(2);
    for (int i = 0; i < 11; i++) put(x, 0, 0, 1, 111);
    put(x, 0, 0, 1, 311);
    due("call 11, argument 1, value b", x.mend(), 1111);
    due("it is as it was", x.set(11, 1, 319), 311);
    due("of two calls the first", told("fun 1;fun 1;call 0 1 1;call 1 0 a;call 0 1 a-1;").mend(), 0);
    due("not a call that need not", told("fun 1;fun 1;call 0 0 a-1;call 0 1 a;call 1 0 a;").mend(), 100);
  }

  private static void mendNone() {
    says("The ARGUMENT that is to FALL (a VALUE less 1) so that all FUNCTIONS END (they do not now)");
    due("no function", new FallingCalls().mend(), NONE);
    due("no call", opened(2).mend(), NONE);
    due("they do", told("fun 1;call 0 0 a-1;").mend(), NONE);
    due("by none", told("fun 1;call 0 0 1;call 0 0 a;").mend(), NONE);
    due("by none, for one would stay unknown", told("fun 1;fun 1;call 0 1 1;call 1 0 1;").mend(), NONE);
    due("in place of what it was", told("fun 2;call 0 0 a/2 b;call 0 0 b a;").mend(), 100);
  }

  private static void loopsAlone() {
    says("By GRAPHS that are not NEEDLESS alone: how many of them are LOOPS.");
    due("no graphs", new FallingCalls().loops(), 0);
    due("none", told("fun 1;call 0 0 a-1;").loops(), 0);
    due("one", told("fun 1;call 0 0 a;").loops(), 1);
    due("one is needless", told("fun 1;call 0 0 a;call 0 0 1;").loops(), 1);
    due("one, and one that falls is needless", told("fun 1;call 0 0 a;call 0 0 a-1;").loops(), 1);
    due("one of each", told("fun 1;fun 1;fun 1;call 0 0 a;call 1 1 a;call 2 2 1;").loops(), 3);
    due("two of one function", told("fun 2;call 0 0 a 1;call 0 0 1 b;").loops(), 1);
  }

  // ---- runs

  private static void runStart() {
    says("From a FUNCTION with VALUES x, y (0 to 99; y 0, if it has but one)");
    FallingCalls x = told("fun 1;fun 2;call 0 0 a-1;call 1 1 a b-1;");
    due("x 0", x.run(0, 0, 0, 1), 0);
    due("x 99", x.run(0, 99, 0, 1), 99);
    due("x 100", x.run(0, 100, 0, 1), BAD);
    due("x -1", x.run(0, -1, 0, 1), BAD);
    due("y of one", x.run(0, 5, 1, 1), BAD);
    due("y -1 of one", x.run(0, 5, -1, 1), BAD);
    due("y 0", x.run(1, 99, 0, 1), 0);
    due("y 99", x.run(1, 0, 99, 1), 99);
    due("y 100", x.run(1, 0, 100, 1), BAD);
    due("y -1", x.run(1, 0, -1, 1), BAD);
    due("no function 2", x.run(2, 0, 0, 1), BAD);
    for (int far : FAR) {
      due("function " + far, x.run(far, 0, 0, 1), BAD);
      due("x " + far, x.run(0, far, 0, 1), BAD);
      due("y " + far, x.run(1, 0, far, 1), BAD);
    }
    x.set(0, 0, 100);
    due("NONE", x.run(0, 99, 0, 1), NONE);
    due("BAD comes before NONE", x.run(0, 100, 0, 1), BAD);
  }

  /** Which of ten calls is made: the one with number n is seen as n calls more. */
  private static FallingCalls tenWays() {
    FallingCalls x = opened(1, 1);
    for (int n = 0; n < 10; n++) put(x, 0, 1, n);
    put(x, 1, 1, 101);
    return x;
  }

  private static int got(int seed) {
    long next = ((long) seed * 1103515245L + 12345L) & 0xFFFFFFFFL;
    return (int) (next / 65536 % 32768);
  }

  private static void runSeeds() {
    says("the seed becomes seed times 1103515245 and 12345; bits 16 to 30 of it are got");
    FallingCalls x = tenWays();
    due("got is 0", x.run(0, 0, 0, 0), 1);
    due("got is 0, the seed is below 0 then", x.run(0, 0, 0, 78042), 1);
    due("got is 32767", x.run(0, 0, 0, 24884), 1 + 7);
    due("got is 32767, the seed is below 0 then", x.run(0, 0, 0, 76347), 1 + 7);
    int[] seeds = {1, 2, 3, -1, -2, -12345, LEAST, LEAST + 1, MOST, MOST - 1, 65536, -65536, 1103515245};
    for (int seed : seeds) due("seed " + seed, x.run(0, 0, 0, seed), 1 + got(seed) % 10);
    says("and so on, till none is made: how many were.");
    x = opened(1, 1, 1);
    for (int n = 0; n < 5; n++) put(x, 0, 1, n);
    for (int n = 0; n < 5; n++) put(x, 1, 2, 300 + n);
    put(x, 2, 2, 101);
    for (int seed : seeds) {
      int next = seed * 1103515245 + 12345;
      due("twice, seed " + seed, x.run(0, 0, 0, seed), 2 + got(seed) % 5 + got(next) % 5);
    }
  }

  private static void runChoices() {
    says("of the CALLS from there that are made the got modulo so many-th (0 on) is");
    FallingCalls x = opened(1, 1);
    int[] told = {109, 1, 103, 202, 3, 101};
    for (int a : told) put(x, 0, 1, a);
    put(x, 1, 1, 101);
    int[] made = {1, 3};
    for (int seed = -20; seed < 20; seed++) due("of two, seed " + seed, x.run(0, 0, 0, seed), 1 + made[got(seed) % 2]);
    int[] atThree = {1, 0, 1, 3, 2};
    for (int seed = -20; seed < 20; seed++) due("of five, seed " + seed, x.run(0, 3, 0, seed), 1 + atThree[got(seed) % 5]);
    due("none is from there", opened(1).run(0, 9, 0, 1), 0);
    due("one is alone", told("fun 1;fun 1;call 1 1 a;call 0 1 a-9;").run(0, 8, 0, 1), 0);
  }

  /** By these seeds 99, 100, 101 times 9 is added ahead of the tenth call; then two are by numbers. */
  private static void runMostWorth() {
    says("VALUES (999 at most) are its ARGUMENTS then");
    int[] seeds = {935868, 1187938, 261240};
    for (int i = 0; i < 3; i++) {
      due("990 or 999, down by 9 and 3", grown(209, 203).run(0, 99, 0, seeds[i]), 99 + i + 2 + (i == 0 ? 36 : 37));
      due("990 or 999, down by 8 and 5", grown(208, 205).run(0, 99, 0, seeds[i]), 99 + i + 2 + 24);
    }
    FallingCalls x = opened(2);
    put(x, 0, 0, 100, 111);
    due("99 stays 99", x.run(0, 99, 99, 1), 99);
  }

  private static FallingCalls grown(int first, int second) {
    FallingCalls x = opened(1, 1, 1);
    for (int i = 0; i < 9; i++) put(x, 0, 0, 309);
    put(x, 0, 1, first);
    put(x, 1, 2, second);
    put(x, 2, 2, 101);
    return x;
  }

  private static void runEnds() {
    says("till none is made: how many were. BAD; NONE: the 200th was made.");
    FallingCalls x = opened(2, 2);
    put(x, 0, 0, 101, 110);
    put(x, 0, 0, 100, 111);
    put(x, 1, 0, 301, 110);
    due("none", x.run(0, 0, 0, 5), 0);
    due("198", x.run(0, 99, 99, 5), 198);
    due("199", x.run(1, 98, 99, 5), 199);
    due("the 200th, and then none is", x.run(1, 99, 99, 5), NONE);
    x.set(2, 0, 309);
    due("the 200th, and then some are", x.run(1, 99, 99, 5), NONE);
    due("for ever", told("fun 1;call 0 0 a;").run(0, 0, 0, 5), NONE);
  }

  // ---- images, sheets

  private static void keepEdges() {
    says("IMAGE k (0, 1) is FUNCTIONS, CALLS (all of them): whether there was one (1, 0). BAD.");
    FallingCalls x = new FallingCalls();
    due("2", x.keep(2), BAD);
    for (int far : FAR) due("" + far, x.keep(far), BAD);
    due("none came", x.count(0), 0);
    due("0, of nothing told", x.keep(0), 0);
    x.open(2);
    for (int i = 0; i < 12; i++) put(x, 0, 0, i % 10, 110 + i % 10);
    due("1, of 12 calls", x.keep(1), 0);
    due("1 again", x.keep(1), 1);
    due("two", x.count(0), 2);
    due("nothing was told", x.back(0), 0);
    due("no function", x.rule(0), 0);
    due("12 calls", x.back(1), 12);
    for (int c = 0; c < 12; c++) due("argument 0 of " + c, x.argument(c, 0, 2), c % 10);
    for (int c = 0; c < 12; c++) due("argument 1 of " + c, x.argument(c, 1, 0), 1);
    x.cut(3);
    due("in place of that which was", x.keep(1), 1);
    x.cut(0);
    due("3 calls", x.back(1), 3);
  }

  private static void backEdges() {
    says("All is as IMAGE k: CALLS.");
    FallingCalls x = told("fun 2;call 0 0 a b-1;");
    x.keep(0);
    x.open(1);
    x.add(1, 0);
    x.set(0, 1, 400);
    feed(x, "fun");
    x.sheet(0, 0, 7);
    due("graphs before", x.rule(2) > 1 ? 1 : 0, 1);
    due("calls", x.back(0), 1);
    due("functions", x.rule(0), 1);
    due("arguments", x.argument(0, 1, 0), 1);
    due("graphs", x.rule(2), 1);
    due("it ends", x.rule(5), 1);
    due("the tape is as it was", x.count(2), 3);
    due("the sheet is as it was", x.count(3), 7);
    due("the image is there still", x.count(0), 1);
    x.set(0, 1, 9);
    due("back again", x.back(0), 1);
    due("it was not changed with what is", x.set(0, 1, 0), 111);
    x.cut(0);
    due("nor cut", x.back(0), 1);
  }

  private static void backState() {
    says("BAD; STATE: there is none.");
    FallingCalls x = told("fun 1;call 0 0 a;");
    due("none 0", x.back(0), STATE);
    due("none 1", x.back(1), STATE);
    due("2", x.back(2), BAD);
    for (int far : FAR) due("" + far, x.back(far), BAD);
    x.keep(1);
    due("none 0 still", x.back(0), STATE);
    due("1", x.back(1), 1);
    tell(x, "?");
    due("a refused text leaves it", x.back(1), 1);
    tell(x, "fun 1;");
    due("a text that is taken does not", x.back(1), STATE);
    due("nothing is changed by that", x.rule(0), 1);
  }

  private static void sheetEdges() {
    says("A SHEET is a new row of CELLS 0: 1. BAD: also n above 40; -10 - 4.");
    FallingCalls x = told("fun 1;call 0 0 a;");
    due("sheet 4", x.sheet(4, 0, 1), BAD);
    due("lane 3", x.sheet(0, 3, 1), BAD);
    due("41", x.sheet(0, 0, 41), BAD);
    due("most", x.sheet(0, 0, MOST), BAD);
    due("-1", x.sheet(0, 0, -1), -14);
    due("least", x.sheet(0, 0, LEAST), -14);
    for (int far : FAR) {
      due("sheet " + far, x.sheet(far, 0, 1), BAD);
      due("lane " + far, x.sheet(0, far, 1), BAD);
      due("BAD comes first, sheet " + far, x.sheet(far, 0, -1), BAD);
      due("BAD comes first, lane " + far, x.sheet(0, far, -1), BAD);
    }
    due("nothing still", x.count(3), NONE);
    due("40", x.sheet(0, 2, 40), 1);
    for (int i = 0; i < 40; i++) x.lay(0, i, 5);
    due("refused", x.sheet(0, 2, -1), -14);
    due("40 still", x.count(3), 40);
    due("0", x.sheet(0, 2, 0), 1);
    due("no cells", x.count(3), 0);
    due("40 again", x.sheet(0, 2, 40), 1);
    due("all are 0", x.read(0, 2, 0, 13), 13);
    due("all are 0, from 1 on", x.read(0, 2, 1, 13), 13);
    due("that was read", x.set(0, 0, 1), 0);
  }

  private static void layEdges() {
    says("CELL i of a SHEET becomes v (its lowest bits): 1. BAD: k; -10 less the FAULT: NULL, INDEX.");
    FallingCalls x = new FallingCalls();
    due("sheet 4", x.lay(4, 0, 0), BAD);
    for (int far : FAR) due("sheet " + far, x.lay(far, 0, 0), BAD);
    due("nothing", x.lay(3, 0, 0), -11);
    for (int far : FAR) due("NULL comes first", x.lay(3, far, 0), -11);
    x.sheet(3, 1, 2);
    due("cell 0", x.lay(3, 0, 0), 1);
    due("cell 1", x.lay(3, 1, MOST), 1);
    due("cell 2", x.lay(3, 2, 0), -12);
    for (int far : FAR) due("cell " + far, x.lay(3, far, 0), -12);
    x.sheet(3, 1, 0);
    due("no cell", x.lay(3, 0, 0), -12);
  }

  /** What a cell of a lane is: the call whose number is laid becomes 7, or the read is refused. */
  private static int cellRead(int lane, int v) {
    FallingCalls x = opened(2);
    put(x, 0, 0, 400, 400);
    x.sheet(1, lane, 3);
    x.lay(1, 2, v);
    return x.read(1, lane, 0, 1) == 1 ? x.set(0, 0, 0) : BAD;
  }

  private static void layLowestBits() {
    says("becomes v (its lowest bits)");
    due("a byte, 119", cellRead(0, 119), 119);
    due("a byte, 256 and 9", cellRead(0, 265), 9);
    due("a byte, -256 and 9", cellRead(0, -247), 9);
    due("a byte, 255 is -1", cellRead(0, 255), BAD);
    due("a byte, 128 and 119", cellRead(0, 247), BAD);
    due("a byte, the most is -1", cellRead(0, MOST), BAD);
    due("a byte, the least is 0", cellRead(0, LEAST), 0);
    due("a short, 319", cellRead(1, 319), 319);
    due("a short, 65536 and 400", cellRead(1, 65936), 400);
    due("a short, -65536 and 9", cellRead(1, -65527), 9);
    due("a short, 256 and 9", cellRead(1, 265), BAD);
    due("a short, 65535 is -1", cellRead(1, 65535), BAD);
    due("a short, 32768 and 9", cellRead(1, 32777), BAD);
    due("a short, the least is 0", cellRead(1, LEAST), 0);
    due("an int, 400", cellRead(2, 400), 400);
    due("an int, 65536 and 9", cellRead(2, 65545), BAD);
    due("an int, the least", cellRead(2, LEAST), BAD);
  }

  private static void readEdges() {
    says("BAD: k, lane, n; -20 less i");
    FallingCalls x = told("fun 1;call 0 0 a;");
    cells(x, 0, 0, 0, 7);
    due("sheet 4", x.read(4, 2, 0, 1), BAD);
    due("lane 3", x.read(0, 3, 0, 1), BAD);
    due("n 14", x.read(0, 2, 0, 14), BAD);
    for (int far : FAR) {
      due("sheet " + far, x.read(far, 2, 0, 1), BAD);
      due("lane " + far, x.read(0, far, 0, 1), BAD);
      due("n " + far, x.read(0, 2, 0, far), BAD);
      due("BAD comes before NULL", x.read(1, 2, far, 14), BAD);
    }
    due("none came", x.argument(0, 0, 0), 1);
    says("n (0 to 13) times a CALL");
    due("0 times", x.read(0, 2, 0, 0), 0);
    due("none came", x.argument(0, 0, 0), 1);
    due("0 times of nothing", x.read(1, 2, 0, 0), 0);
    x.sheet(0, 2, 40);
    due("13 times", x.read(0, 2, 0, 13), 13);
    due("13 times up to the last cell", x.read(0, 2, 1, 13), 13);
    due("no fault", x.torn(), 0);
    due("13 times, a cell is missing", x.read(0, 2, 2, 13), 12);
    due("its fault", x.torn(), 2);
  }

  private static void readThreeCellsEach() {
    says("which ARGUMENT, what it is to be are read of a SHEET taken as of a lane, three CELLS each from CELL f on, one behind another as by set(): how many came.");
    for (int lane = 0; lane < 3; lane++) {
      for (int f = 0; f < 3; f++) {
        FallingCalls x = opened(2);
        put(x, 0, 0, 1, 2);
        put(x, 0, 0, 3, 4);
        x.sheet(2, lane, f + 6);
        int[] row = {1, 0, 119, 0, 1, 101};
        for (int i = 0; i < 6; i++) x.lay(2, f + i, row[i]);
        due("two, lane " + lane + " from " + f, x.read(2, lane, f, 2), 2);
        due("no fault", x.torn(), 0);
        row("all arguments", new int[] {x.set(0, 0, 0), x.set(0, 1, 0), x.set(1, 0, 0), x.set(1, 1, 0)}, 1, 101, 119, 4);
        due("the second alone", x.read(2, lane, f + 3, 1), 1);
        row("all arguments", new int[] {x.set(0, 0, 0), x.set(0, 1, 0), x.set(1, 0, 0), x.set(1, 1, 0)}, 0, 101, 0, 0);
        due("as of another lane", x.read(2, (lane + 1) % 3, f, 2), 0);
        due("CAST", x.torn(), 3);
        due("none came", x.count(1), 4);
      }
    }
  }

  private static void readWhole() {
    says("What the machine refuses: those that were whole ahead came (its FAULT is asked by torn()).");
    FallingCalls x = told("fun 2;call 0 0 1 1;");
    for (int missing = 0; missing < 3; missing++) {
      int[] row = {0, 0, 101 + missing, 0, 1, 111 + missing, 9, 9, 9};
      cells(x, 3, Arrays.copyOf(row, 8 - missing));
      due("graphs before", x.count(5), missing == 0 ? 0 : 56);
      due("two are whole", x.read(3, 2, 0, 3), 2);
      due("INDEX", x.torn(), 2);
      due("the first came", x.argument(0, 0, 2), 1 + missing);
      due("the second came", x.argument(0, 1, 2), 1 + missing);
    }
    due("graphs follow", x.count(5), 56);
    cells(x, 3, 0, 0, 7);
    due("f 1", x.read(3, 2, 1, 1), 0);
    due("f 3", x.read(3, 2, 3, 13), 0);
    due("f -3, the second would be whole", x.read(3, 2, -3, 2), 0);
    for (int far : FAR) due("f " + far, x.read(3, 2, far, 13), 0);
    for (int near = 0; near < 40; near++) due("f near the most", x.read(3, 2, MOST - near, 13), 0);
    due("INDEX", x.torn(), 2);
    due("none of these came", x.argument(0, 0, 2), 3);
    x.sheet(2, 2, 0);
    due("no cells", x.read(2, 2, 0, 1), 0);
    due("INDEX", x.torn(), 2);
  }

  private static void readRefusedBySet() {
    says("-20 less i: the i-th, whole, is refused by set(): then none came; the first met.");
    FallingCalls x = told("fun 2;call 0 0 1 1;");
    int[] whole = new int[39];
    for (int i = 0; i < 39; i++) whole[i] = i % 3 == 2 ? 5 : 0;
    for (int i = 0; i < 13; i++) {
      int[] row = whole.clone();
      row[3 * i + i % 3] = i % 3 == 2 ? 500 : -1;
      cells(x, 0, row);
      due("the " + i + "-th", x.read(0, 2, 0, 13), -20 - i);
      due("none came", x.argument(0, 0, 2), 1);
      if (i % 3 == 2) x = told("fun 2;call 0 0 1 1;");
    }
    cells(x, 0, 0, 0, 2, 1, 0, 0, 0, 2, 0);
    due("the first of two", x.read(0, 2, 0, 3), -21);
    cells(x, 0, 0, 0, 2, 1, 0, 0, 0);
    due("ahead of the machine", x.read(0, 2, 0, 3), -21);
    cells(x, 0, 0, 0, 2, 1, 0);
    due("the machine ahead of it, for it is not whole", x.read(0, 2, 0, 3), 1);
    due("one came", x.argument(0, 0, 2), 2);
    cells(x, 0, 0, 0, 3, 0, 0, 4, 0, 0, 119);
    due("one behind another", x.read(0, 2, 0, 3), 3);
    due("the last one stays", x.set(0, 0, 0), 119);
  }

  private static void tornEdges() {
    says("The FAULT of the latest read() that came to an end; 0.");
    FallingCalls x = told("fun 1;call 0 0 a;");
    due("none as yet", x.torn(), 0);
    cells(x, 0, 0, 0, 7, 5, 0, 7);
    x.read(1, 2, 0, 1);
    due("NULL", x.torn(), 1);
    due("asked again", x.torn(), 1);
    due("refused by set()", x.read(0, 2, 0, 2), -21);
    due("that did not come to an end", x.torn(), 1);
    due("BAD", x.read(0, 2, 0, 14), BAD);
    due("that did not, either", x.torn(), 1);
    x.lay(0, 6, 0);
    x.sheet(2, 0, -1);
    due("of read() alone", x.torn(), 1);
    x.read(0, 2, 0, 1);
    due("none", x.torn(), 0);
    x.read(0, 1, 0, 1);
    due("CAST", x.torn(), 3);
    x.read(0, 2, 4, 1);
    due("INDEX", x.torn(), 2);
    x.read(0, 2, 4, 0);
    due("0 times", x.torn(), 0);
  }

  private static void countEdges() {
    says("3 CELLS of SHEET 0 (NONE: nothing), 4 ARITIES of all, 5 CODES of all GRAPHS, summed. BAD.");
    FallingCalls x = new FallingCalls();
    due("nothing", x.count(3), NONE);
    x.sheet(1, 0, 5);
    due("of sheet 0 alone", x.count(3), NONE);
    x.sheet(0, 0, 0);
    due("no cells", x.count(3), 0);
    x.sheet(0, 2, 40);
    due("40 cells", x.count(3), 40);
    due("what -1", x.count(-1), BAD);
    due("what 6", x.count(6), BAD);
    for (int far : FAR) due("what " + far, x.count(far), BAD);
    for (int i = 0; i < 3; i++) x.open(2);
    due("arities", x.count(4), 6);
    for (int i = 0; i < 12; i++) x.add(0, 0);
    due("all are numbers", x.count(1), 24);
    due("codes of one graph of 12", x.count(5), 0);
    for (int i = 0; i < 12; i++) x.set(i, 0, 101);
    due("half are", x.count(1), 12);
    due("each graph once", x.count(5), 2);
  }
}
