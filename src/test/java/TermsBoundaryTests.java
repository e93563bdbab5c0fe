/** Each sentence of the document's terms that names a boundary case, with a test of its own. */
public final class TermsBoundaryTests extends Checks {
  /** Two functions of two values and one of one, with a call from each to each. */
  private static final int[] ARITIES = {2, 2, 1};

  public static void main(String[] args) {
    numberOfCalls();
    functions();
    calls();
    argumentsOfACall();
    valuesOfAnArgument();
    worthOfKinds();
    relationFalls();
    relationStays();
    relationElse();
    callIsMade();
    tape();
    tokens();
    tokensAsLongAsMayBe();
    grammar();
    prefixes();
    linesOfFun();
    linesOfCall();
    numbersOfText();
    valuesOfText();
    faultsFirstMet();
    fault1();
    fault2();
    fault3();
    fault5();
    textThatIsTaken();
    codes();
    codesOfWhatThereIsNot();
    composed();
    graphsByOrder();
    mostGraphs();
    words();
    idle();
    falls();
    loop();
    ends();
    components();
    needless();
    sheets();
    machineFaults();
    conclude("TermsBoundaryTests");
  }

  private static int[] rules(FallingCalls x) {
    int[] all = new int[8];
    for (int w = 0; w < 8; w++) all[w] = x.rule(w);
    return all;
  }

  private static int[] codesOf(FallingCalls x) {
    int[] all = new int[x.rule(2)];
    for (int g = 0; g < all.length; g++) all[g] = x.graph(g, 2);
    return all;
  }

  private static int[] wordOf(FallingCalls x, int g) {
    int[] all = new int[x.graph(g, 3)];
    for (int k = 0; k < all.length; k++) all[k] = x.word(g, k);
    return all;
  }

  private static void numberOfCalls() {
    says("An object is used for at most 512 calls after it has been made");
    FallingCalls x = new FallingCalls();
    for (int i = 0; i < 160; i++) x.feed(0);
    for (int i = 160; i < 508; i++) due("call " + i, x.feed(0), FULL);
    due("the 509th call", x.open(2), 1);
    due("the 510th call", x.add(0, 0), 1);
    due("the 511th call", x.rule(4), 1);
    due("the 512th call", x.spare(), 0);
  }

  // ---- part 1: functions, calls, arguments

  private static void functions() {
    says("FUNCTIONS 0 on (3 at most, by order), each with an ARITY (1, 2)");
    FallingCalls x = opened(2, 1, 2);
    row("arities by order", new int[] {x.fun(0, 0), x.fun(1, 0), x.fun(2, 0)}, 2, 1, 2);
    due("the 4th", x.open(1), FULL);
    due("there is no function 3", x.fun(3, 0), BAD);
    due("arity 0", new FallingCalls().open(0), BAD);
    due("arity 3", new FallingCalls().open(3), BAD);
    taken("fun 1;fun 2;fun 1;", 3);
  }

  private static void calls() {
    says("CALLS 0 on (12 at most, by order), each from a FUNCTION to a FUNCTION (the same or another one)");
    FallingCalls x = opened(ARITIES);
    for (int c = 0; c < 9; c++) due("call " + c, x.add(c / 3, c % 3), c + 1);
    for (int c = 0; c < 9; c++) due("from of " + c, x.call(c, 0), c / 3);
    for (int c = 0; c < 9; c++) due("to of " + c, x.call(c, 1), c % 3);
    due("the 10th", x.add(2, 2), 10);
    due("the 11th", x.add(2, 2), 11);
    due("the 12th", x.add(2, 1), 12);
    due("the 13th", x.add(0, 0), FULL);
    due("call 11", x.call(11, 1), 1);
    due("there is no call 12", x.call(12, 0), BAD);
    taken("fun 1;" + times(12, "call 0 0 1;"), 13);
  }

  private static void argumentsOfACall() {
    says("with as many ARGUMENTS as that one's ARITY.");
    FallingCalls x = opened(2, 1);
    put(x, 0, 1);
    put(x, 1, 0);
    due("two to one: 0", x.argument(0, 0, 0), 0);
    due("two to one: no 1", x.argument(0, 1, 0), BAD);
    due("two to one: none is set", x.set(0, 1, 0), BAD);
    due("one to two: 1", x.argument(1, 1, 0), 0);
    due("one to two: 1 is set", x.set(1, 1, 9), 0);
    due("one to two: no 2", x.argument(1, 2, 0), BAD);
    due("three in all", x.count(1), 3);
  }

  private static void valuesOfAnArgument() {
    says("a VALUE of the calling FUNCTION (0: a, 1: b; below its ARITY)");
    FallingCalls x = opened(2, 1);
    put(x, 0, 1);
    put(x, 1, 0);
    for (int kind = 100; kind <= 300; kind += 100) {
      due("a of two", x.set(0, 0, kind + 1) >= 0 ? x.argument(0, 0, 1) : BAD, 0);
      due("b of two", x.set(0, 0, kind + 11) >= 0 ? x.argument(0, 0, 1) : BAD, 1);
      due("no third of two", x.set(0, 0, kind + 21), BAD);
      due("a of one", x.set(1, 1, kind + 1) >= 0 ? x.argument(1, 1, 1) : BAD, 0);
      due("no b of one", x.set(1, 1, kind + 11), BAD);
    }
  }

  /** What an argument of values a, b is: the second function counts it down one by one. */
  private static int worth(int told, int a, int b) {
    FallingCalls x = opened(2, 1);
    put(x, 0, 1, told);
    put(x, 1, 1, 101);
    int made = x.run(0, a, b, 1);
    return made < 1 ? made : made - 1;
  }

  private static void worthOfKinds() {
    says("0 the NUMBER itself");
    due("0", worth(0, 99, 99), 0);
    due("9", worth(9, 0, 0), 9);
    says("1 the VALUE less NUMBER (0 to 9)");
    due("a - 0", worth(100, 99, 1), 99);
    due("0 - 0", worth(110, 7, 0), 0);
    due("9 - 9", worth(109, 9, 1), 0);
    due("b - 9", worth(119, 0, 99), 90);
    says("2 the VALUE by NUMBER (down; 1 to 9)");
    due("0 / 1", worth(201, 0, 5), 0);
    due("99 / 1", worth(211, 5, 99), 99);
    due("8 / 9 is down", worth(209, 8, 50), 0);
    due("9 / 9", worth(209, 9, 50), 1);
    due("17 / 9 is down", worth(219, 50, 17), 1);
    due("18 / 9", worth(219, 50, 18), 2);
    due("1 / 2 is down", worth(202, 1, 50), 0);
    says("3 the VALUE and NUMBER");
    due("0 + 0", worth(300, 0, 5), 0);
    due("99 + 9", worth(319, 5, 99), 108);
    says("4 the lesser of a and b (ARITY 2)");
    due("a is less", worth(400, 3, 4), 3);
    due("b is less", worth(400, 4, 3), 3);
    due("as one", worth(400, 5, 5), 5);
    due("0", worth(400, 0, 99), 0);
    FallingCalls one = opened(1);
    put(one, 0, 0);
    due("not of one value", one.set(0, 0, 400), BAD);
  }

  /** The code of a call from two values to one, whose argument is told as by set(). */
  private static int codeTwoToOne(int told) {
    FallingCalls x = opened(2, 1);
    put(x, 0, 1, told);
    return x.call(0, 2);
  }

  private static void relationFalls() {
    says("2 (it FALLS): KIND 1 of that VALUE, NUMBER above 0; KIND 2 of it, NUMBER above 1.");
    int[] falls = {101, 109, 202, 209};
    for (int told : falls) {
      due("a by " + told, codeTwoToOne(told), 2);
      due("b by " + (told + 10), codeTwoToOne(told + 10), 18);
    }
  }

  private static void relationStays() {
    says("1 (it STAYS): KIND 1 with NUMBER 0, KIND 2 with 1, KIND 3 with 0, of it; KIND 4.");
    int[] stays = {100, 201, 300};
    for (int told : stays) {
      due("a by " + told, codeTwoToOne(told), 1);
      due("b by " + (told + 10), codeTwoToOne(told + 10), 9);
    }
    due("both by the lesser", codeTwoToOne(400), 1 + 9);
  }

  private static void relationElse() {
    says("0 else.");
    int[] unknown = {0, 1, 9, 301, 309, 311, 319};
    for (int told : unknown) due("by " + told, codeTwoToOne(told), 0);
  }

  private static int runOfOne(int told, int a) {
    FallingCalls x = opened(1);
    put(x, 0, 0, told);
    return x.run(0, a, 0, 1);
  }

  private static void callIsMade() {
    says("A CALL is made, if for each ARGUMENT of KIND 1 the VALUE is no less than NUMBER");
    due("0 less 1", runOfOne(101, 0), 0);
    due("1 less 1", runOfOne(101, 1), 1);
    due("8 less 9", runOfOne(109, 8), 0);
    due("9 less 9", runOfOne(109, 9), 1);
    due("0 less 0", runOfOne(100, 0), NONE);
    says("of KIND 2 with NUMBER above 1 the VALUE is above 0.");
    due("0 by 2", runOfOne(202, 0), 0);
    due("1 by 2", runOfOne(202, 1), 1);
    due("0 by 9", runOfOne(209, 0), 0);
    due("1 by 9", runOfOne(209, 1), 1);
    due("0 by 1", runOfOne(201, 0), NONE);
    says("if for each ARGUMENT");
    FallingCalls x = opened(2);
    put(x, 0, 0, 101, 112);
    due("the first is short", x.run(0, 2, 99, 1), 2);
    due("the second is short", x.run(0, 99, 5, 1), 2);
    x.set(0, 0, 111);
    x.set(0, 1, 202);
    due("a value of another place", x.run(0, 5, 0, 1), 0);
    due("the second by 2 is of 0", x.run(0, 0, 9, 1), 0);
    due("both are as told", x.run(0, 1, 1, 1), 1);
    x = opened(2);
    for (int c = 0; c < 11; c++) put(x, 0, 0, 109, 119);
    put(x, 0, 0, 101, 110);
    due("the last call alone", x.run(0, 8, 99, 1), 8);
    x.cut(0);
    put(x, 0, 0, 101, 110);
    put(x, 0, 0, 109, 119);
    due("the first call alone, whatever the next one is of", x.run(0, 8, 0, 1), 8);
  }

  // ---- part 1: the text

  private static void tape() {
    says("THE TAPE has 160 bytes, places from 0.");
    faulty("?", 1, 0);
    faulty(wide("fun 1;", 159) + "?", 1, 159);
    faulty(wide("fun 1", 160), 2, 160);
    taken(wide("fun 1;", 160), 1);
    taken(wide("", 154) + "fun 1;", 1);
    FallingCalls x = new FallingCalls();
    feed(x, wide("", 160));
    due("the 161st", x.feed('?'), FULL);
    due("it did not come", x.text(), 0);
  }

  /** Each byte there is, alone on the tape. */
  private static void tokens() {
    says("blanks (32) between: NAMES (a .. z), NUMBERS (1 or 2 figures), one of - / + & ; .");
    for (char c = 0; c < 128; c++) {
      boolean token = c >= 'a' && c <= 'z' || c >= '0' && c <= '9' || "-/+&;".indexOf(c) >= 0;
      if (c == ' ') taken(" ", 0);
      else faulty("" + c, token ? 2 : 1, 0);
    }
    taken("fun 1;call 0 0 a-1;", 2);
    taken("  fun  1  ;  call  0  0  a  -  1  ;  ", 2);
    taken("fun1;call0 0a-1;", 2);
    taken("fun 01;call 00 00 09;", 2);
    faulty("fun 001;", 1, 4);
    faulty("fun\t1;", 1, 3);
    faulty("fun 1;\n", 1, 6);
  }

  private static void tokensAsLongAsMayBe() {
    says("TOKENS, each as long as may be");
    faulty("funfun 1;", 2, 0);
    faulty("fun 11;", 3, 4);
    faulty("fun 1 1;", 2, 6);
    faulty("fun 1;call 00 a;", 2, 14);
    faulty("fun 2;call 0 0 ab;", 2, 15);
    faulty("fun 2;call 0 0 a&ba;", 2, 17);
    faulty("fun 1;call 0 0a1;", 2, 15);
    faulty("fun 1;;", 2, 6);
    faulty("fun 1;call 0 0 a--1;", 2, 17);
  }

  private static void grammar() {
    says("text: { line } line: fun N ; | call N N ARG { ARG } ; ARG: N | V | V - N | V / N | V + N | V & V V: a | b");
    taken("", 0);
    taken("fun 1;", 1);
    String[] arguments = {"0", "a", "b", "a-0", "b/1", "a+0", "a&b"};
    for (String first : arguments) {
      taken("fun 2;fun 1;call 0 1 " + first + ";", 3);
      for (String second : arguments) taken("fun 2;call 0 0 " + first + " " + second + ";", 2);
    }
    taken("fun 1;call 0 0 a;fun 2;call 1 0 b;fun 1;call 2 1 a a;", 6);
  }

  /** Where a text that is whole ends too soon: in a name, at the length, or between lines. */
  private static void prefixes() {
    says("or the end: the length");
    String text = "fun 2;call 0 0 a - 1 b & a;";
    for (int n = 0; n < text.length(); n++) {
      String part = text.substring(0, n);
      if (n == 0 || n == 6) taken(part, n / 6);
      else if (n < 3) faulty(part, 2, 0);
      else if (n > 6 && n < 10) faulty(part, 2, 6);
      else faulty(part, 2, n);
    }
    taken(text, 2);
  }

  private static void linesOfFun() {
    says("fun: a FUNCTION more: ARITY.");
    faulty("fun 0;", 3, 4);
    due("1", told("fun 1;").fun(0, 0), 1);
    due("2", told("fun 2;").fun(0, 0), 2);
    faulty("fun 3;", 3, 4);
    faulty("fun 99;", 3, 4);
  }

  private static void linesOfCall() {
    says("from, to (FUNCTIONS told so far)");
    faulty("call 0 0 1;", 3, 5);
    faulty("call 0 0 1;fun 1;", 3, 5);
    faulty("fun 1;call 1 0 1;", 3, 11);
    faulty("fun 1;call 0 1 1;", 3, 13);
    faulty("fun 1;call 0 1 1;fun 1;", 3, 13);
    taken("fun 1;fun 1;call 1 1 1;", 3);
    faulty("fun 1;fun 1;call 2 1 1;", 3, 17);
    faulty("fun 1;fun 1;fun 1;call 3 0 1;", 3, 23);
    taken("fun 1;fun 1;fun 1;call 2 2 1;", 4);
    says("ARGUMENTS, just as many as ARITY of that one is.");
    faulty("fun 1;call 0 0;", 2, 14);
    faulty("fun 1;call 0 0 a a;", 2, 17);
    faulty("fun 2;call 0 0 a;", 2, 16);
    faulty("fun 2;call 0 0 a a a;", 2, 19);
    taken("fun 2;fun 1;call 0 1 b;call 1 0 a a;", 4);
    faulty("fun 2;fun 1;call 0 1 a b;", 2, 23);
    faulty("fun 2;fun 1;call 1 0 a;", 2, 22);
  }

  private static void argumentOf(String text, int want) {
    FallingCalls x = told("fun 2;fun 1;call 0 1 " + text + ";");
    due("argument " + text, x.set(0, 0, 5), want);
  }

  private static void numbersOfText() {
    says("N: 0 to 9; behind / 1 to 9.");
    argumentOf("0", 0);
    argumentOf("9", 9);
    argumentOf("a-0", 100);
    argumentOf("b-9", 119);
    argumentOf("a/1", 201);
    argumentOf("b/9", 219);
    argumentOf("a+0", 300);
    argumentOf("b+9", 319);
    faulty("fun 1;call 0 0 10;", 3, 15);
    faulty("fun 1;call 0 0 99;", 3, 15);
    faulty("fun 1;call 0 0 a-10;", 3, 17);
    faulty("fun 1;call 0 0 a/0;", 3, 17);
    faulty("fun 1;call 0 0 a/00;", 3, 17);
    faulty("fun 1;call 0 0 a/10;", 3, 17);
    faulty("fun 1;call 0 0 a+10;", 3, 17);
  }

  private static void valuesOfText() {
    says("V alone is V - 0.");
    argumentOf("a", 100);
    argumentOf("b", 110);
    says("a & b, b & a, a & a, b & b: KIND 4, if they are two; of one it is that one less 0.");
    argumentOf("a & b", 400);
    argumentOf("b & a", 400);
    argumentOf("a & a", 100);
    argumentOf("b & b", 110);
    FallingCalls one = told("fun 1;call 0 0 a & a;");
    due("a & a of arity 1", one.set(0, 0, 5), 100);
    faulty("fun 1;call 0 0 a & b;", 3, 19);
    faulty("fun 1;call 0 0 b & a;", 3, 15);
  }

  private static void faultsFirstMet() {
    says("FAULTS, the first met as it is read (a TOKEN is read when the one before has been taken)");
    faulty("foo ?", 2, 0);
    faulty("fun 3 ?", 3, 4);
    faulty("fun 1 ?", 1, 6);
    faulty("fun 1 foo ?", 2, 6);
    faulty("fun ? 3", 1, 4);
    faulty("fun 1;call 1 ?", 3, 11);
    faulty("fun 1;call 0 0 b ?", 3, 15);
    faulty("fun 1;call 0 0 a ?", 1, 17);
    faulty("fun 1;call 0 0 c ?", 2, 15);
    faulty("fun 1;call 0 0 a / 0 ?", 3, 19);
    faulty("fun 1;call 0 0 a / 1 ?", 1, 21);
    faulty("fun 1;call 0 0 1 1 ?", 2, 17);
    faulty("fun 1;call 0 0 a & 100", 1, 19);
    faulty("fun 1;fun 1;fun 1;fun ?", 5, 18);
    faulty("fun 1;? fun 1;?", 1, 6);
  }

  private static void fault1() {
    says("1 no TOKEN, a NUMBER that is too long (its first byte).");
    faulty("fun 1; ?", 1, 7);
    faulty("fun ?", 1, 4);
    faulty("FUN 1;", 1, 0);
    faulty("fun 100;", 1, 4);
    faulty("fun   000;", 1, 6);
    faulty("123456", 1, 0);
    faulty("fun 1;call 0 0 a-001;", 1, 17);
    faulty("fun 1 123", 1, 6);
  }

  private static void fault2() {
    says("2 a TOKEN that can not stand there (a NAME that begins no line, is no V; or the end: the length).");
    faulty("foo", 2, 0);
    faulty("a", 2, 0);
    faulty("fun 1;b", 2, 6);
    faulty("1", 2, 0);
    faulty("-", 2, 0);
    faulty("fun fun;", 2, 4);
    faulty("fun ;", 2, 4);
    faulty("fun 1-", 2, 5);
    faulty("fun 1;call call", 2, 11);
    faulty("fun 1;call 0 a", 2, 13);
    faulty("fun 1;call 0 0 call", 2, 15);
    faulty("fun 1;call 0 0 c", 2, 15);
    faulty("fun 1;call 0 0 & a;", 2, 15);
    faulty("fun 1;call 0 0 a - a;", 2, 19);
    faulty("fun 1;call 0 0 a & fun;", 2, 19);
    faulty("fun 1;call 0 0 a a", 2, 17);
    faulty("fun", 2, 3);
    faulty("fun   ", 2, 6);
    faulty("fun 1", 2, 5);
    faulty("fun 1;call", 2, 10);
    faulty("fun 1;call 0", 2, 12);
    faulty("fun 1;call 0 0", 2, 14);
    faulty("fun 1;call 0 0 a", 2, 16);
    faulty("fun 1;call 0 0 a &", 2, 18);
  }

  private static void fault3() {
    says("3 a NUMBER out of its bounds; V b of a FUNCTION of ARITY 1 (its NAME).");
    faulty("fun 3;", 3, 4);
    faulty("fun   00;", 3, 6);
    faulty("fun 1;call 0 0 a + 10;", 3, 19);
    faulty("fun 1;call 0 0 b;", 3, 15);
    faulty("fun 1;call 0 0   b - 1;", 3, 17);
    faulty("fun 1;call 0 0 b & b;", 3, 15);
    faulty("fun 1;fun 2;call 0 1 a b;", 3, 23);
    taken("fun 2;fun 1;call 0 1 b;", 3);
  }

  private static void fault5() {
    says("5 the 4th fun, the 13th call (its NAME).");
    String funs = "fun 1;fun 1;fun 1;";
    taken(funs, 3);
    faulty(funs + "fun 1;", 5, 18);
    faulty(funs + "  fun", 5, 20);
    faulty(funs + "call 0 0 1;fun 1;", 5, 29);
    String twelve = times(12, "call 0 0 1;");
    taken(funs + twelve, 15);
    faulty(funs + twelve + "fun", 5, 150);
    faulty(funs + twelve + " call", 5, 151);
    faulty("fun 1;" + twelve + "call 0 0 1;", 5, 138);
    taken("fun 1;" + twelve + "fun 1;", 14);
  }

  private static void textThatIsTaken() {
    says("A text that is taken tells all, in place of what there was; IMAGES are gone.");
    FallingCalls x = told("fun 2;fun 2;call 0 1 a b;call 1 0 b a;");
    x.keep(0);
    x.keep(1);
    due("graphs before", x.rule(2), 8);
    due("taken", tell(x, "fun 1;call 0 0 a-1;"), 2);
    row("all is told anew", rules(x), 1, 1, 1, 1, 0, 1, 1, 1);
    due("no image 0", x.back(0), STATE);
    due("no image 1", x.back(1), STATE);
    x.keep(1);
    due("an empty one", x.text(), 0);
    row("nothing is told", rules(x), 0, 0, 0, 0, 0, 1, 0, 0);
    due("nor is there an image", x.count(0), 0);
  }

  // ---- part 2: graphs

  private static int codeOf(FallingCalls x, int from, int to, int... arguments) {
    return x.call(put(x, from, to, arguments), 2);
  }

  private static void codes() {
    says("of RELATIONS of VALUE i of from to ARGUMENT k of to, each times 3 to the power 2 i and k, summed");
    FallingCalls x = opened(2);
    due("none", codeOf(x, 0, 0, 9, 319), 0);
    due("a to 0", codeOf(x, 0, 0, 101, 0), 2);
    due("a to 1", codeOf(x, 0, 0, 0, 101), 6);
    due("b to 0", codeOf(x, 0, 0, 111, 0), 18);
    due("b to 1", codeOf(x, 0, 0, 0, 111), 54);
    due("all stay", codeOf(x, 0, 0, 400, 400), 40);
    x = opened(2);
    put(x, 0, 0, 400, 400);
    put(x, 0, 0, 101, 111);
    due("all fall: 80", x.graph(x.compose(0, 1), 2), 80);
  }

  private static void codesOfWhatThereIsNot() {
    says("(those that there are not: 0)");
    FallingCalls x = opened(1, 2);
    due("one to one", codeOf(x, 0, 0, 101), 2);
    due("one to two", codeOf(x, 0, 1, 101, 101), 8);
    due("two to one", codeOf(x, 1, 0, 400), 10);
    x = opened(1, 2);
    put(x, 0, 0, 100);
    put(x, 0, 1, 100, 100);
    put(x, 1, 0, 400);
    for (int g = 0; g < x.rule(2); g++) {
      int most = new int[] {2, 8, 20, 80}[2 * x.graph(g, 0) + x.graph(g, 1)];
      due("graph " + g + " has none beside", x.graph(g, 2) <= most ? 1 : 0, 1);
    }
  }

  private static void composed() {
    says("RELATION of i to k is, of all ways i to m to k by RELATIONS above 0, 2, if any of both is 2, else 1; 0, if there is no way.");
    int[] told = {1, 100, 101};
    int[][] want = {{0, 0, 0}, {0, 1, 2}, {0, 2, 2}};
    for (int i = 0; i < 3; i++) {
      for (int k = 0; k < 3; k++) {
        FallingCalls x = opened(1, 1, 1);
        put(x, 0, 1, told[i]);
        put(x, 1, 2, told[k]);
        due("one way of " + i + " and " + k, x.graph(x.compose(0, 1), 2), want[i][k]);
      }
    }
    twoWays(new int[] {100, 100}, 400, 1);
    twoWays(new int[] {101, 100}, 400, 2);
    twoWays(new int[] {100, 101}, 400, 2);
    twoWays(new int[] {101, 1}, 400, 2);
    twoWays(new int[] {1, 100}, 400, 1);
    twoWays(new int[] {1, 1}, 400, 0);
    twoWays(new int[] {1, 101}, 100, 0);
    twoWays(new int[] {101, 1}, 110, 0);
  }

  /** From one value by two to one. */
  private static void twoWays(int[] first, int second, int want) {
    FallingCalls x = opened(1, 2, 1);
    put(x, 0, 1, first);
    put(x, 1, 2, second);
    due("two ways by " + first[0] + " " + first[1] + " then " + second, x.graph(x.compose(0, 1), 2), want);
  }

  private static void graphsByOrder() {
    says("GRAPHS 0 on: those of CALLS by order, each once");
    FallingCalls x = opened(1);
    int[] told = {101, 100, 209, 201, 0, 309};
    for (int a : told) put(x, 0, 0, a);
    row("codes", codesOf(x), 2, 1, 0);
    int[] which = new int[6];
    for (int c = 0; c < 6; c++) which[c] = x.call(c, 3);
    row("graphs of calls", which, 0, 1, 0, 1, 2, 2);
    says("then of each GRAPH by order, COMPOSED with that of each CALL by order (that is from where it goes to), what is not among them yet.");
    x = opened(1, 1);
    put(x, 0, 1, 100);
    put(x, 1, 0, 101);
    put(x, 1, 1, 0);
    row("codes", codesOf(x), 1, 2, 0, 2, 0, 2, 0, 2, 0);
    int[] ends = new int[9];
    for (int g = 0; g < 9; g++) ends[g] = 10 * x.graph(g, 0) + x.graph(g, 1);
    row("from, to", ends, 1, 10, 11, 0, 1, 11, 10, 1, 0);
    due("no call, no graph", opened(2, 2).rule(2), 0);
  }

  /**
   * Of the 81 codes 75 can come, whatever the calls are (all of them were tried):
   * with three functions that come to one another these are 675 graphs.
   */
  private static void mostGraphs() {
    says("what is not among them yet.");
    FallingCalls x = opened(2, 2, 2);
    put(x, 0, 1, 100, 110);
    put(x, 1, 2, 100, 110);
    put(x, 2, 0, 100, 110);
    int[][] more = {{110, 0}, {100, 400}, {100, 111}, {101, 111}, {100, 400}, {0, 110}, {101, 110}, {100, 110}, {110, 100}};
    for (int[] a : more) put(x, 0, 0, a);
    row("rules", rules(x), 3, 12, 675, 93, 45, 0, 1, 9);
    due("the last", x.graph(674, 3) > 0 ? 1 : 0, 1);
    due("behind the last", x.graph(675, 0), BAD);
    due("codes", x.count(5), 26640);
    for (int g = 0; g < 675; g += 13) due("found again", x.find(x.graph(g, 0), x.graph(g, 1), x.graph(g, 2)), g);
    due("that can not come", x.find(0, 0, 1 + 18 + 27), NONE);
  }

  private static void words() {
    says("WORD of a GRAPH: the row of CALLS by which it came first.");
    FallingCalls x = opened(2);
    put(x, 0, 0, 111, 100);
    put(x, 0, 0, 211 + 1, 201);
    row("of two calls the first", wordOf(x, 0), 0);
    row("the shortest", wordOf(x, 1), 0, 0);
    row("the longest", wordOf(x, 2), 0, 0, 0);
    x = opened(1, 1);
    put(x, 0, 1, 100);
    put(x, 1, 0, 101);
    put(x, 1, 1, 0);
    row("0 then 1", wordOf(x, 3), 0, 1);
    row("0 then 2", wordOf(x, 4), 0, 2);
    row("1 then 0", wordOf(x, 5), 1, 0);
    row("0 then 1 then 0", wordOf(x, 7), 0, 1, 0);
    row("0 then 2 then 1, not 0 1 0 2 1", wordOf(x, 8), 0, 2, 1);
  }

  private static void idle() {
    says("IDLE: a GRAPH from a FUNCTION to itself that COMPOSED with itself is itself.");
    FallingCalls x = opened(2, 2);
    put(x, 0, 1, 100, 110);
    due("from one to another", x.graph(0, 4), 0);
    x = opened(2);
    int[][] told = {{100, 110}, {101, 111}, {110, 100}, {110, 0}, {0, 0}, {400, 400}, {0, 100}, {100, 0}, {101, 110}, {100, 101}};
    int[] idle = {1, 1, 0, 0, 1, 1, 0, 1, 1, 1};
    for (int i = 0; i < told.length; i++) due("graph " + i, x.graph(x.call(put(x, 0, 0, told[i]), 3), 4), idle[i]);
    due("none of no graphs", opened(1).rule(3), 0);
  }

  private static void falls() {
    says("It FALLS in VALUE i, if RELATION of i to i is 2.");
    FallingCalls x = opened(2);
    int[][] told = {{101, 110}, {100, 111}, {101, 111}, {111, 101}, {100, 110}, {0, 101}, {111, 0}};
    int[] falls = {1, 2, 3, 0, 0, 0, 0};
    for (int i = 0; i < told.length; i++) due("graph " + i, x.graph(x.call(put(x, 0, 0, told[i]), 3), 5), falls[i]);
  }

  private static void loop() {
    says("A LOOP: an IDLE one that falls in none.");
    FallingCalls x = opened(2);
    int[][] told = {{100, 110}, {101, 110}, {100, 111}, {110, 100}, {111, 101}, {0, 0}, {100, 101}, {110, 0}};
    int[] loops = {1, 0, 0, 0, 0, 1, 1, 0};
    for (int i = 0; i < told.length; i++) due("graph " + i, x.graph(x.call(put(x, 0, 0, told[i]), 3), 6), loops[i]);
    x = opened(2, 2);
    put(x, 0, 1, 100, 110);
    due("from one to another", x.graph(0, 6), 0);
  }

  private static void ends() {
    says("A FUNCTION ENDS, if from none that it comes to by CALLS (itself, too) there is a LOOP.");
    FallingCalls x = opened(1, 1, 1);
    row("no calls", new int[] {x.fun(0, 3), x.fun(1, 3), x.fun(2, 3)}, 1, 1, 1);
    put(x, 0, 1, 100);
    put(x, 1, 2, 100);
    row("no loop", new int[] {x.fun(0, 3), x.fun(1, 3), x.fun(2, 3)}, 1, 1, 1);
    put(x, 1, 1, 100);
    row("itself, and what comes to it", new int[] {x.fun(0, 3), x.fun(1, 3), x.fun(2, 3)}, 0, 0, 1);
    x.cut(2);
    put(x, 2, 2, 0);
    row("by two calls", new int[] {x.fun(0, 3), x.fun(1, 3), x.fun(2, 3)}, 0, 0, 0);
    x.set(2, 0, 101);
    row("it falls", new int[] {x.fun(0, 3), x.fun(1, 3), x.fun(2, 3)}, 1, 1, 1);
    for (int f = 0; f < 3; f++) {
      x.cut(0);
      put(x, f, f, 100);
      row("one alone does not, by graph 0", new int[] {x.fun(0, 3), x.fun(1, 3), x.fun(2, 3)}, f == 0 ? 0 : 1, f == 1 ? 0 : 1, f == 2 ? 0 : 1);
    }
  }

  private static int[] componentsOf(FallingCalls x) {
    return new int[] {x.fun(0, 2), x.fun(1, 2), x.fun(2, 2)};
  }

  private static void components() {
    says("COMPONENT: FUNCTIONS that come to one another (one alone, too); they are numbered 0 on, by the first FUNCTION of each.");
    FallingCalls x = opened(1, 1, 1);
    row("alone", componentsOf(x), 0, 1, 2);
    put(x, 0, 1, 0);
    put(x, 1, 2, 0);
    row("one way", componentsOf(x), 0, 1, 2);
    put(x, 2, 1, 0);
    row("1 and 2", componentsOf(x), 0, 1, 1);
    due("two", x.rule(6), 2);
    put(x, 2, 0, 0);
    row("all, by a third", componentsOf(x), 0, 0, 0);
    due("one", x.rule(6), 1);
    x.cut(0);
    put(x, 0, 2, 0);
    put(x, 2, 0, 0);
    row("0 and 2", componentsOf(x), 0, 1, 0);
    x.cut(0);
    put(x, 0, 1, 0);
    put(x, 1, 0, 0);
    row("0 and 1", componentsOf(x), 0, 0, 1);
    due("none", new FallingCalls().rule(6), 0);
  }

  private static void needless() {
    says("NEEDLESS: a GRAPH, if another one of the same from, to has no RELATION above its own.");
    FallingCalls x = opened(2, 2);
    put(x, 0, 1, 101, 110);
    due("not by itself", x.graph(0, 7), 0);
    put(x, 0, 1, 202, 211);
    due("one that is as it is the same", x.rule(2), 1);
    put(x, 0, 1, 100, 111);
    row("neither of two", new int[] {x.graph(0, 7), x.graph(1, 7)}, 0, 0);
    put(x, 0, 1, 101, 111);
    row("one above both", new int[] {x.graph(0, 7), x.graph(1, 7), x.graph(2, 7)}, 0, 0, 1);
    put(x, 0, 1, 100, 110);
    row("one below all", new int[] {x.graph(0, 7), x.graph(1, 7), x.graph(2, 7), x.graph(3, 7)}, 1, 1, 1, 0);
    put(x, 1, 1, 0, 0);
    due("by one that is composed", x.graph(3, 7), 1);
    x = opened(2, 2);
    put(x, 0, 1, 101, 110);
    put(x, 1, 1, 101, 110);
    row("each of its own from", new int[] {x.graph(0, 7), x.graph(1, 7)}, 0, 0);
  }

  private static void sheets() {
    says("SHEETS 0 to 3 are rows of BYTES (lane 0), SHORTS (1), INTS (2) with 0 to 40 CELLS, or nothing (at first).");
    FallingCalls x = new FallingCalls();
    for (int k = 0; k < 4; k++) due("nothing at first", x.lay(k, 0, 0), -11);
    due("sheet -1", x.lay(-1, 0, 0), BAD);
    due("sheet 4", x.lay(4, 0, 0), BAD);
    for (int lane = 0; lane < 3; lane++) {
      due("0 cells", x.sheet(lane, lane, 0), 1);
      due("no cell", x.lay(lane, 0, 0), -12);
      due("40 cells", x.sheet(lane, lane, 40), 1);
      due("the last", x.lay(lane, 39, 0), 1);
      due("behind the last", x.lay(lane, 40, 0), -12);
      due("41 cells", x.sheet(lane, lane, 41), BAD);
    }
    due("lane -1", x.sheet(0, -1, 0), BAD);
    due("lane 3", x.sheet(0, 3, 0), BAD);
    due("the 4th is nothing still", x.lay(3, 0, 0), -11);
  }

  private static void machineFaults() {
    says("A FAULT is what the machine finds: 1 NULL (nothing), 2 INDEX, 3 CAST (another lane), 4 SIZE (below 0).");
    FallingCalls x = opened(1);
    put(x, 0, 0, 100);
    x.sheet(0, 1, 3);
    int[][] reads = {{1, 1, 0, 1}, {0, 1, -1, 1}, {0, 1, 1, 1}, {0, 0, 0, 1}, {0, 2, 0, 1}, {0, 0, 99, 1}, {1, 0, 99, 1}};
    for (int i = 0; i < reads.length; i++) {
      due("read " + i, x.read(reads[i][0], reads[i][1], reads[i][2], reads[i][3]), 0);
      due("its fault", x.torn(), new int[] {1, 2, 2, 3, 3, 3, 1}[i]);
    }
    due("SIZE", x.sheet(0, 1, -1), -14);
    due("NULL", x.lay(1, 0, 0), -11);
    due("INDEX", x.lay(0, 3, 0), -12);
  }
}
