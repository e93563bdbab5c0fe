/** For each promise of the document: ordinary inputs, edges and wrong inputs, by hand. */
public final class PromiseTests extends Checks {
  public static void main(String[] args) {
    promise01New();
    promise02Feed();
    promise03End();
    promise04Text();
    promise04Faults();
    promise04WhatStays();
    promise04FullTape();
    promise05Fault();
    promise06Rule();
    promise07Fun();
    promise08Call();
    promise09Argument();
    promise10Graph();
    promise11Word();
    promise12Find();
    promise13Compose();
    promise14Witness();
    promise15Open();
    promise16Add();
    promise17Cut();
    promise18Set();
    promise19Spare();
    promise20Mend();
    promise21Loops();
    promise22Run();
    promise23Keep();
    promise24Back();
    promise25Sheet();
    promise26Lay();
    promise27Read();
    promise28Torn();
    promise29Count();
    conclude("PromiseTests");
  }

  /** What argument 0 of the only call of a text is, told as by set(). */
  private static void argument(String text, int want) {
    FallingCalls x = told(text);
    due("argument of " + text, x.set(0, 0, 5), want);
  }

  private static void promise01New() {
    FallingCalls x = new FallingCalls();
    int[] rules = {0, 0, 0, 0, 0, 1, 0, 0};
    for (int w = 0; w < 8; w++) due("1: rule " + w, x.rule(w), rules[w]);
    int[] counts = {0, 0, 0, NONE, 0, 0};
    for (int w = 0; w < 6; w++) due("1: count " + w, x.count(w), counts[w]);
    due("1: fault", x.fault(), 0);
    due("1: torn", x.torn(), 0);
    due("1: no function", x.fun(0, 0), BAD);
    due("1: no graph", x.graph(0, 0), BAD);
    due("1: no image", x.back(0), STATE);
    for (int k = 0; k < 4; k++) due("1: sheet of nothing", x.lay(k, 0, 0), -11);
    due("1: nothing to spare", x.spare(), NONE);
    due("1: nothing to mend", x.mend(), NONE);
    due("1: no loops", x.loops(), 0);
  }

  private static void promise02Feed() {
    FallingCalls x = new FallingCalls();
    due("2: -1", x.feed(-1), BAD);
    due("2: 128", x.feed(128), BAD);
    due("2: least", x.feed(LEAST), BAD);
    for (int i = 1; i <= 160; i++) due("2: byte " + i, x.feed(i % 2 == 0 ? 0 : 127), i);
    due("2: the 161st", x.feed(32), FULL);
    due("2: BAD before FULL", x.feed(128), BAD);
    due("2: still 160", x.count(2), 160);
  }

  private static void promise03End() {
    FallingCalls x = new FallingCalls();
    due("3: empty", x.end(0), 0);
    feed(x, "fun 1;;");
    due("3: -1", x.end(-1), BAD);
    due("3: above", x.end(8), BAD);
    due("3: all", x.end(7), 7);
    due("3: 6", x.end(6), 7);
    due("3: 6 now", x.count(2), 6);
    due("3: told", x.text(), 1);
    for (int i = 0; i < 160; i++) x.feed(32);
    due("3: from full", x.end(159), 160);
    due("3: room again", x.feed(32), 160);
  }

  private static void promise04Text() {
    due("4: empty", told("").rule(0), 0);
    due("4: blanks", told("   ").text(), 0);
    FallingCalls x = new FallingCalls();
    feed(x, "fun 1;fun 1;call01 a;");
    due("4: 01 is one number", x.text(), -10 - 19);
    feed(x, "  fun2 ; fun 01;call 0 1b-03;call 0 1 a ; ");
    due("4: lines", x.text(), 4);
    due("4: tape is empty", x.count(2), 0);
    due("4: arity", x.fun(1, 0), 1);
    due("4: less 3", x.set(0, 0, 0), 113);
    argument("fun 2;fun 1;call 0 1 7;", 7);
    argument("fun 2;fun 1;call 0 1 9;", 9);
    argument("fun 2;fun 1;call 0 1 00;", 0);
    argument("fun 2;fun 1;call 0 1 a;", 100);
    argument("fun 2;fun 1;call 0 1 b;", 110);
    argument("fun 2;fun 1;call 0 1 b - 9;", 119);
    argument("fun 2;fun 1;call 0 1 a / 1;", 201);
    argument("fun 2;fun 1;call 0 1 b/9;", 219);
    argument("fun 2;fun 1;call 0 1 a + 0;", 300);
    argument("fun 2;fun 1;call 0 1 a & b;", 400);
    argument("fun 2;fun 1;call 0 1 b & a;", 400);
    argument("fun 2;fun 1;call 0 1 a & a;", 100);
    argument("fun 2;fun 1;call 0 1 b&b;", 110);
    argument("fun 1;call 0 0 a&a;", 100);
    StringBuilder most = new StringBuilder("fun 1;fun 1;fun 1;");
    for (int i = 0; i < 12; i++) most.append("call 0 2 1;");
    x = new FallingCalls();
    feed(x, most.toString());
    due("4: 3 functions, 12 calls", x.text(), 15);
    due("4: functions go before calls or behind", told("fun 1;call 0 0 a;fun 2;call 1 0 b;").rule(1), 2);
  }

  private static void promise04Faults() {
    faulty("fun 1;?", 1, 6);
    faulty("fun 1;.", 1, 6);
    faulty("fun 1;\t", 1, 6);
    faulty("Fun 1;", 1, 0);
    faulty("fun 001;", 1, 4);
    faulty("123", 1, 0);
    faulty("12", 2, 0);
    faulty(";", 2, 0);
    faulty("fun", 2, 3);
    faulty("fun  ", 2, 5);
    faulty("fun 1", 2, 5);
    faulty("fun 1 fun", 2, 6);
    faulty("fun 1;foo", 2, 6);
    faulty("zoo", 2, 0);
    faulty("fun 1;call 0 0 09 10;", 2, 18);
    faulty("fun 1;call 0 0 1{", 1, 16);
    faulty("`", 1, 0);
    faulty("/fun", 2, 0);
    faulty(":", 1, 0);
    faulty("funcall", 2, 0);
    faulty("a", 2, 0);
    faulty("fun a;", 2, 4);
    faulty("fun 3?", 3, 4);
    faulty("fun 1?", 1, 5);
    faulty("fun 1;call 1 0 a;", 3, 11);
    faulty("fun 1;call 0 01?", 3, 13);
    faulty("fun 1;call 0 00;", 2, 15);
    faulty("call 0 0 a;fun 1;", 3, 5);
    faulty("fun 1;call a 0 a;", 2, 11);
    faulty("fun 1;call 0 0 10;", 3, 15);
    faulty("fun 1;call 0 0 a - 10;", 3, 19);
    faulty("fun 1;call 0 0 a / 0;", 3, 19);
    faulty("fun 1;call 0 0 a / 10;", 3, 19);
    faulty("fun 1;call 0 0 a + 10;", 3, 19);
    faulty("fun 1;call 0 0 a - 100;", 1, 19);
    faulty("fun 1;call 0 0 a - b;", 2, 19);
    faulty("fun 1;call 0 0 a -", 2, 18);
    faulty("fun 1;call 0 0 a & 1;", 2, 19);
    faulty("fun 1;call 0 0 a & c;", 2, 19);
    faulty("fun 1;call 0 0 a & b;", 3, 19);
    faulty("fun 1;call 0 0 b?", 3, 15);
    faulty("fun 1;call 0 0 a?", 1, 16);
    faulty("fun 1;call 0 0 c;", 2, 15);
    faulty("fun 1;call 0 0 aa;", 2, 15);
    faulty("fun 1;call 0 0 ab;", 2, 15);
    faulty("fun 1;call 0 0 - 1;", 2, 15);
    faulty("fun 1;call 0 0;", 2, 14);
    faulty("fun 1;call 0 0 a 1;", 2, 17);
    faulty("fun 2;call 0 0 a;", 2, 16);
    faulty("fun 2;fun 1;call 1 0 a b;", 3, 23);
    faulty("fun 2;call 0 0 a b - 1 - 1;", 2, 23);
    faulty("fun 2;call 0 0 a&b&a b;", 2, 18);
    faulty("fun 1;call 0 0 1 - 1;", 2, 17);
    faulty("fun 1;fun 1;fun 1;fun?", 5, 18);
    StringBuilder calls = new StringBuilder("fun 1;");
    for (int i = 0; i < 12; i++) calls.append("call 0 0 1;");
    faulty(calls + "call 7", 5, calls.length());
    faulty("fun 1;fun 1;" + calls + "a", 2, calls.length() + 12);
    faulty("fun 1;fun 1;" + calls + "fun", 5, calls.length() + 12);
    faulty(calls + "fan", 2, calls.length());
  }

  private static void promise04WhatStays() {
    FallingCalls x = told("fun 2;call 0 0 a b;");
    x.keep(0);
    x.keep(1);
    x.sheet(0, 0, 2);
    feed(x, "fun 1;fun 1;call 0 1 b;");
    due("4: refused", x.text(), -31);
    due("4: tape is empty", x.count(2), 0);
    due("4: what was told stays", x.fun(0, 0), 2);
    due("4: calls stay", x.rule(1), 1);
    due("4: graphs stay", x.call(0, 2), 28);
    due("4: images stay", x.count(0), 2);
    due("4: graphs are asked", x.rule(2), 1);
    feed(x, "fun 1;");
    due("4: taken", x.text(), 1);
    due("4: calls are gone", x.rule(1), 0);
    due("4: graphs are gone", x.rule(2), 0);
    due("4: images are gone", x.count(0), 0);
    due("4: no image", x.back(1), STATE);
    due("4: sheets stay", x.count(3), 2);
    due("4: empty is taken", x.text(), 0);
    due("4: no function", x.rule(0), 0);
  }

  /** Tapes of 160 bytes, whose last is one of each sort. */
  private static void promise04FullTape() {
    String[] lasts = {" ", ";", "z", "12", "?"};
    int[] lines = {1, -169, -169, -168, -169};
    for (int i = 0; i < lasts.length; i++) {
      StringBuilder text = new StringBuilder("fun 1;");
      while (text.length() + lasts[i].length() < 160) text.append(' ');
      FallingCalls x = new FallingCalls();
      feed(x, text + lasts[i]);
      due("4: full, last " + lasts[i], x.text(), lines[i]);
    }
    StringBuilder open = new StringBuilder("fun 1");
    while (open.length() < 160) open.append(' ');
    faulty(open.toString(), 2, 160);
  }

  private static void promise05Fault() {
    FallingCalls x = new FallingCalls();
    feed(x, "?");
    due("5: before", x.fault(), 0);
    x.text();
    due("5: fault", x.fault(), 1);
    x.open(1);
    feed(x, "fun 1;");
    due("5: still that of the latest", x.fault(), 1);
    x.text();
    due("5: none", x.fault(), 0);
  }

  /** Two functions, that swap and fall, and a third that goes to the first. */
  private static FallingCalls three() {
    return told("fun 2;fun 2;fun 1;call 0 1 b a-1;call 1 0 b a;call 2 0 a a;call 2 2 a-1;");
  }

  private static void promise06Rule() {
    FallingCalls x = told("fun 2;call 0 0 b-1 a;");
    int[] swap = {1, 1, 3, 1, 0, 1, 1, 2};
    for (int w = 0; w < 8; w++) due("6: swap, rule " + w, x.rule(w), swap[w]);
    due("6: -1", x.rule(-1), BAD);
    due("6: 8", x.rule(8), BAD);
    due("6: most", x.rule(MOST), BAD);
    x = told("fun 2;call 0 0 b a;");
    int[] loop = {1, 1, 2, 1, 1, 0, 1, 2};
    for (int w = 0; w < 8; w++) due("6: loop, rule " + w, x.rule(w), loop[w]);
    x = three();
    due("6: components", x.rule(6), 2);
    due("6: apart", told("fun 1;fun 2;fun 1;").rule(6), 3);
    due("6: no calls end", told("fun 1;").rule(5), 1);
    x = told("fun 1;call 0 0 a-1;call 0 0 a;");
    due("6: needless", x.rule(7), 1);
    due("6: the first is idle", told("fun 1;call 0 0 a;").rule(3), 1);
    due("6: not idle of two", told("fun 1;fun 1;call 0 1 a;call 1 0 a;").rule(3), 2);
    x = told("fun 1;call 0 0 a-1;call 0 0 a/2;call 0 0 a-9;");
    due("6: each once", x.rule(2), 1);
  }

  private static void promise07Fun() {
    FallingCalls x = three();
    int[][] want = {{2, 1, 0, 1, 3}, {2, 1, 0, 1, 3}, {1, 2, 1, 1, 7}};
    for (int f = 0; f < 3; f++) {
      for (int w = 0; w < 5; w++) due("7: fun " + f + " " + w, x.fun(f, w), want[f][w]);
    }
    due("7: no function", x.fun(3, 0), BAD);
    due("7: -1", x.fun(-1, 0), BAD);
    due("7: what -1", x.fun(0, -1), BAD);
    due("7: what 5", x.fun(0, 5), BAD);
    x.set(0, 1, 100);
    due("7: does not end", x.fun(0, 3), 0);
    due("7: comes to what does not end", x.fun(2, 3), 0);
    x = told("fun 1;fun 1;fun 1;call 0 2 a;call 2 0 1;call 1 1 a - 1;");
    due("7: 0 and 2 together", x.fun(2, 2), 0);
    due("7: 1 alone", x.fun(1, 2), 1);
    due("7: 1 ends", x.fun(1, 3), 1);
    due("7: 0 does not", x.fun(0, 3), 0);
    due("7: the first graph is a loop", told("fun 1;call 0 0 a;").fun(0, 3), 0);
    due("7: one that calls none comes to none", told("fun 1;").fun(0, 4), 0);
  }

  private static void promise08Call() {
    FallingCalls x = told("fun 2;fun 1;call 0 0 a b-1;call 1 0 a 3;call 0 1 a&b;call 0 0 a+0 b/2;call 1 1 a/1;call 1 1 a+1;");
    int[][] want = {{0, 0, 1 + 54, 0}, {1, 0, 1, 1}, {0, 1, 10, 2}, {0, 0, 55, 0}, {1, 1, 1, 3}, {1, 1, 0, 4}};
    for (int c = 0; c < want.length; c++) {
      for (int w = 0; w < 4; w++) due("8: call " + c + " " + w, x.call(c, w), want[c][w]);
    }
    due("8: no call", x.call(6, 0), BAD);
    due("8: -1", x.call(-1, 0), BAD);
    due("8: what 4", x.call(0, 4), BAD);
    due("8: what -1", x.call(0, -1), BAD);
    due("8: all fall", told("fun 2;call 0 0 a-1 a-1;").call(0, 2), 8);
    due("8: b to both", told("fun 2;call 0 0 b-1 b;").call(0, 2), 45);
    due("8: the lesser twice", told("fun 2;call 0 0 a&b b&a;").call(0, 2), 40);
  }

  private static void promise09Argument() {
    FallingCalls x = told("fun 2;call 0 0 7 b-3;call 0 0 a/4 b+5;call 0 0 a&b a&a;");
    int[][][] want = {{{0, NONE, 7}, {1, 1, 3}}, {{2, 0, 4}, {3, 1, 5}}, {{4, NONE, 0}, {1, 0, 0}}};
    for (int c = 0; c < 3; c++) {
      for (int k = 0; k < 2; k++) {
        for (int w = 0; w < 3; w++) due("9: argument " + c + " " + k + " " + w, x.argument(c, k, w), want[c][k][w]);
      }
    }
    due("9: no call", x.argument(3, 0, 0), BAD);
    due("9: call -1", x.argument(-1, 0, 0), BAD);
    due("9: no argument", x.argument(0, 2, 0), BAD);
    due("9: argument -1", x.argument(0, -1, 0), BAD);
    due("9: what 3", x.argument(0, 0, 3), BAD);
    due("9: what -1", x.argument(0, 0, -1), BAD);
    due("9: one argument alone", told("fun 2;fun 1;call 0 1 a;").argument(0, 1, 0), BAD);
  }

  private static void promise10Graph() {
    FallingCalls x = told("fun 2;fun 1;call 0 0 b-1 a;call 0 1 b;call 1 1 a;");
    // 0 b>a a=b; 1 b=a; 2 a=a; 3 twice 0; 4 0 then 1; 5 thrice 0; 6 twice 0, then 1; 7 thrice 0, then 1
    int[][] want = {
      {0, 0, 21, 1, 0, 0, 0, 0}, {0, 1, 9, 1, 0, NONE, 0, 0}, {1, 1, 1, 1, 1, 0, 1, 0},
      {0, 0, 56, 2, 1, 3, 0, 0}, {0, 1, 1, 2, 0, NONE, 0, 0}, {0, 0, 24, 3, 0, 0, 0, 1},
      {0, 1, 18, 3, 0, NONE, 0, 1}, {0, 1, 2, 4, 0, NONE, 0, 1}};
    due("10: graphs", x.rule(2), want.length);
    for (int g = 0; g < want.length; g++) {
      for (int w = 0; w < 8; w++) due("10: graph " + g + " " + w, x.graph(g, w), want[g][w]);
    }
    due("10: no graph", x.graph(want.length, 0), BAD);
    due("10: -1", x.graph(-1, 0), BAD);
    due("10: what 8", x.graph(0, 8), BAD);
    due("10: what -1", x.graph(0, -1), BAD);
  }

  private static void promise11Word() {
    FallingCalls x = told("fun 1;fun 2;call 0 1 a/2 a;call 1 0 a&b;call 0 1 a/3 a-0;");
    due("11: graphs", x.rule(2), 7);
    int[] longest = {0, 1, 0, 1};
    due("11: length", x.graph(6, 3), 4);
    for (int k = 0; k < 4; k++) due("11: word 6 " + k, x.word(6, k), new int[] {1, 0, 1, 0}[k]);
    for (int k = 0; k < 2; k++) due("11: word 2 " + k, x.word(2, k), longest[k]);
    due("11: not so long", x.word(6, 4), NONE);
    due("11: far", x.word(6, MOST), NONE);
    due("11: -1", x.word(6, -1), BAD);
    due("11: no graph", x.word(7, 0), BAD);
    due("11: graph -1", x.word(-1, 0), BAD);
    due("11: BAD before NONE", x.word(7, 99), BAD);
  }

  private static void promise12Find() {
    FallingCalls x = told("fun 2;fun 1;call 0 0 b-1 a;call 0 1 b;call 1 1 a;call 1 0 1 1;");
    for (int g = 0; g < x.rule(2); g++) {
      due("12: found again", x.find(x.graph(g, 0), x.graph(g, 1), x.graph(g, 2)), g);
    }
    due("12: code 0", x.find(1, 0, 0), 3);
    due("12: none", x.find(0, 0, 80), NONE);
    due("12: code -1", x.find(0, 0, -1), BAD);
    due("12: code 81", x.find(0, 0, 81), BAD);
    due("12: no from", x.find(2, 0, 0), BAD);
    due("12: from -1", x.find(-1, 0, 0), BAD);
    due("12: no to", x.find(0, 2, 0), BAD);
    due("12: to -1", x.find(0, -1, 0), BAD);
    due("12: no calls", told("fun 1;").find(0, 0, 0), NONE);
  }

  private static void promise13Compose() {
    FallingCalls x = told("fun 2;fun 1;call 0 0 b-1 a;call 0 1 b;call 1 1 a;");
    due("13: twice", x.compose(0, 0), 3);
    due("13: then 1", x.compose(0, 1), 4);
    due("13: 3 then 0", x.compose(3, 0), 5);
    due("13: 5 then 5", x.compose(5, 5), 3);
    due("13: idle", x.compose(3, 3), 3);
    due("13: not from there", x.compose(1, 0), NONE);
    due("13: BAD", x.compose(0, 8), BAD);
    due("13: BAD first", x.compose(-1, 0), BAD);
    due("13: BAD second", x.compose(0, -1), BAD);
    due("13: BAD before NONE", x.compose(1, 8), BAD);
    due("13: no graphs", new FallingCalls().compose(0, 0), BAD);
    x = told("fun 2;call 0 0 a&b a-1;call 0 0 b b;");
    due("13: the greater of two ways", x.graph(x.compose(0, 0), 2), 2 + 3 * 2 + 9 + 27 * 2);
  }

  private static void promise14Witness() {
    FallingCalls x = told("fun 1;fun 1;fun 1;call 0 1 a;call 1 1 a;call 2 2 a-1;");
    due("14: comes to", x.witness(0), 1);
    due("14: has", x.witness(1), 1);
    due("14: ends", x.witness(2), NONE);
    due("14: no function", x.witness(3), BAD);
    due("14: -1", x.witness(-1), BAD);
    x = told("fun 1;fun 1;call 1 1 a;call 0 0 a+1;call 0 1 1;");
    due("14: the first, not its own", x.witness(0), 0);
    due("14: two", told("fun 2;call 0 0 b a;").witness(0), 1);
  }

  private static void promise15Open() {
    FallingCalls x = new FallingCalls();
    due("15: 0", x.open(0), BAD);
    due("15: 3", x.open(3), BAD);
    due("15: 1", x.open(1), 1);
    due("15: 2", x.open(2), 2);
    due("15: third", x.open(2), 3);
    due("15: full", x.open(1), FULL);
    due("15: BAD before FULL", x.open(0), BAD);
    due("15: three", x.rule(0), 3);
    due("15: arity", x.fun(1, 0), 2);
    due("15: component", x.fun(2, 2), 2);
    x = told("fun 1;call 0 0 a;");
    due("15: graphs are asked", x.rule(6), 1);
    x.open(1);
    due("15: one component more", x.rule(6), 2);
    due("15: it ends", x.fun(1, 3), 1);
    due("15: the other does not", x.rule(5), 0);
  }

  private static void promise16Add() {
    FallingCalls x = new FallingCalls();
    due("16: no function", x.add(0, 0), BAD);
    x.open(2);
    x.open(1);
    due("16: from 2", x.add(2, 0), BAD);
    due("16: to 2", x.add(0, 2), BAD);
    due("16: from -1", x.add(-1, 0), BAD);
    due("16: to -1", x.add(0, -1), BAD);
    for (int i = 1; i <= 12; i++) due("16: call " + i, x.add(1, 0), i);
    due("16: full", x.add(0, 0), FULL);
    due("16: BAD before FULL", x.add(0, 2), BAD);
    due("16: a number", x.argument(11, 1, 0), 0);
    due("16: 0", x.argument(11, 1, 2), 0);
    due("16: the first is a number, too", x.set(11, 0, 100), 0);
    due("16: two graphs", x.rule(2), 2);
    x.cut(11);
    x.add(0, 0);
    due("16: another one is seen", x.rule(2), 2);
    x.set(11, 0, 101);
    x.set(11, 1, 101);
    x.cut(11);
    due("16: graphs are asked", x.rule(2), 1);
    x.add(0, 1);
    due("16: they follow", x.rule(2), 4);
    due("16: 0 again", x.argument(11, 0, 0), 0);
    x.cut(11);
    x.add(1, 0);
    due("16: 0 in both", x.set(11, 0, 5) + x.set(11, 1, 5), 0);
  }

  private static void promise17Cut() {
    FallingCalls x = told("fun 1;call 0 0 a-1;call 0 0 a;call 0 0 1;");
    due("17: -1", x.cut(-1), BAD);
    due("17: above", x.cut(4), BAD);
    due("17: all", x.cut(3), 3);
    due("17: does not end", x.rule(5), 0);
    due("17: one", x.cut(1), 3);
    due("17: one is left", x.rule(1), 1);
    due("17: ends", x.rule(5), 1);
    due("17: none", x.cut(0), 1);
    due("17: no graphs", x.rule(2), 0);
    due("17: functions stay", x.rule(0), 1);
    due("17: none again", x.cut(0), 0);
  }

  private static void promise18Set() {
    FallingCalls x = told("fun 2;fun 1;call 0 1 a;call 1 0 a a;");
    int[] fine = {0, 9, 100, 109, 110, 119, 201, 209, 211, 219, 300, 309, 310, 319, 400};
    int was = 100;
    for (int a : fine) {
      due("18: to " + a, x.set(0, 0, a), was);
      due("18: kind of " + a, x.argument(0, 0, 0), a / 100);
      was = a;
    }
    int[] bad = {-1, -100, LEAST, 10, 20, 99, 120, 199, 200, 210, 220, 221, 320, 401, 410, 500, 510, 1000, MOST};
    for (int a : bad) due("18: bad " + a, x.set(0, 0, a), BAD);
    int[] badOfOne = {110, 211, 310, 400};
    for (int a : badOfOne) due("18: bad of arity 1 " + a, x.set(1, 1, a), BAD);
    due("18: as it was", x.set(0, 0, 5), 400);
    due("18: second", x.set(1, 1, 209), 100);
    due("18: no call", x.set(2, 0, 5), BAD);
    due("18: call -1", x.set(-1, 0, 5), BAD);
    due("18: no argument", x.set(0, 1, 5), BAD);
    due("18: argument -1", x.set(0, -1, 5), BAD);
    due("18: graphs follow", x.call(1, 2), 7);
    due("18: closed anew", x.find(1, 0, 7), 1);
  }

  private static void promise19Spare() {
    due("19: all end", told("fun 1;call 0 0 a-1;").spare(), NONE);
    due("19: the one", told("fun 1;call 0 0 a-1;call 0 0 a;").spare(), 1);
    due("19: the 0th", told("fun 1;call 0 0 a;").spare(), 0);
    due("19: those behind it stay as they are", told("fun 2;call 0 0 1 1;call 0 0 a-1 b;call 0 0 a b-1;call 0 0 1 b-1;").spare(), 0);
    due("19: each of those behind", told("fun 2;fun 1;call 0 0 a b;call 0 1 a;call 1 0 1 a-1;call 1 0 2 a-1;call 0 1 b;").spare(), NONE);
    due("19: a function each", told("fun 1;fun 1;call 0 0 a;call 1 1 a;").spare(), NONE);
    due("19: two that loop", told("fun 1;call 0 0 a;call 0 0 a;").spare(), NONE);
    FallingCalls x = told("fun 1;fun 1;call 0 0 a-1;call 0 1 a;call 1 0 a;");
    due("19: the first of several", x.spare(), 1);
    due("19: nothing is changed", x.rule(1), 3);
    due("19: graphs neither", x.rule(4), 2);
    due("19: only one of them", told("fun 1;fun 1;call 0 1 a;call 1 0 a;call 0 1 1;").spare(), 1);
  }

  private static void promise20Mend() {
    due("20: all end", told("fun 1;call 0 0 a-1;").mend(), NONE);
    due("20: the second call", told("fun 1;call 0 0 a-1;call 0 0 a;").mend(), 100);
    due("20: by none", told("fun 1;call 0 0 a;call 0 0 a;").mend(), NONE);
    FallingCalls x = told("fun 2;call 0 0 a b;");
    due("20: the least", x.mend(), 0);
    due("20: nothing is changed", x.argument(0, 0, 2), 0);
    due("20: graphs neither", x.rule(4), 1);
    due("20: a call that the first loop lacks", told("fun 1;fun 1;call 0 0 a;call 1 1 a;").mend(), NONE);
    due("20: by b to b", told("fun 2;call 0 0 1 b-1;call 0 0 1 b+1;").mend(), 111);
    due("20: crosswise", told("fun 2;call 0 0 b 1;").mend(), 0);
    due("20: b to a", told("fun 2;fun 1;call 0 1 1;call 1 0 1 a;").mend(), 1);
  }

  private static void promise21Loops() {
    due("21: none", told("fun 1;call 0 0 a-1;").loops(), 0);
    FallingCalls x = told("fun 1;call 0 0 a;call 0 0 1;");
    due("21: loops in all", x.rule(4), 2);
    due("21: but one is needless", x.loops(), 1);
    due("21: the first one", told("fun 1;call 0 0 a;").loops(), 1);
    due("21: one in each", told("fun 1;fun 1;call 0 0 a;call 1 1 a;").loops(), 2);
  }

  private static void promise22Run() {
    FallingCalls x = told("fun 1;call 0 0 a-1;");
    due("22: down", x.run(0, 7, 0, 1), 7);
    due("22: at once", x.run(0, 0, 0, 1), 0);
    due("22: 99", x.run(0, 99, 0, LEAST), 99);
    due("22: 100", x.run(0, 100, 0, 1), BAD);
    due("22: -1", x.run(0, -1, 0, 1), BAD);
    due("22: y of one", x.run(0, 7, 1, 1), BAD);
    due("22: no function", x.run(1, 7, 0, 1), BAD);
    due("22: -1", x.run(-1, 7, 0, 1), BAD);
    due("22: for ever", told("fun 1;call 0 0 a-0;").run(0, 0, 0, 0), NONE);
    due("22: halves", told("fun 1;call 0 0 a/2;").run(0, 99, 0, 3), 7);
    due("22: by one of 0", told("fun 1;call 0 0 a/1;").run(0, 0, 0, 3), NONE);
    x = told("fun 2;call 0 0 b a-1;");
    due("22: y 99", x.run(0, 0, 99, 1), 0);
    due("22: at the same time", x.run(0, 3, 5, 1), 6);
    due("22: y 100", x.run(0, 0, 100, 1), BAD);
    due("22: y -1", x.run(0, 0, -1, 1), BAD);
    due("22: the lesser", told("fun 2;fun 1;call 0 1 a&b;call 1 1 a-1;").run(0, 9, 4, 1), 5);
    x = told("fun 2;fun 2;call 0 0 a+9 b-1;call 0 1 a b-1;call 1 1 a-9 b;");
    for (int seed = -50; seed < 50; seed++) due("22: seed " + seed, x.run(0, 5, 60, seed), runByHand(5, 60, seed));
    edgeOf200();
    mostWorth();
  }

  /** What the three calls of promise22Run come to: up by the first, till the second; then down by 9. */
  private static int runByHand(int a, int b, int seed) {
    int luck = seed;
    for (int made = 1; made <= b; made++) {
      luck = luck * 1103515245 + 12345;
      if ((luck >> 16 & 32767) % 2 == 1) return made + (a + 9 * (made - 1)) / 9;
    }
    return b;
  }

  /** In whatever order, a and b are counted down to 0 one by one. */
  private static void edgeOf200() {
    FallingCalls x = told("fun 2;fun 2;call 0 0 a b-1;call 1 0 a+1 b;call 0 0 a-1 b;");
    due("22: 198", x.run(0, 99, 99, 4), 198);
    due("22: 199", x.run(1, 98, 99, 4), 199);
    due("22: the 200th", x.run(1, 99, 99, 4), NONE);
  }

  /** By this seed 151 calls of a + 9 are made ahead of the 11th: above 999 it would be 11 halves, not 10. */
  private static void mostWorth() {
    StringBuilder text = new StringBuilder("fun 1;fun 1;");
    for (int i = 0; i < 10; i++) text.append("call 0 0a+9;");
    FallingCalls x = told(text.append("call 0 1a;call 1 1a/2;").toString());
    due("22: 999 at most", x.run(0, 99, 0, 17421), 151 + 1 + 10);
  }

  private static void promise23Keep() {
    FallingCalls x = told("fun 1;call 0 0 a;");
    due("23: first", x.keep(0), 0);
    due("23: again", x.keep(0), 1);
    due("23: the other", x.keep(1), 0);
    due("23: 2", x.keep(2), BAD);
    due("23: -1", x.keep(-1), BAD);
    due("23: images", x.count(0), 2);
  }

  private static void promise24Back() {
    FallingCalls x = told("fun 2;call 0 0 a&b b-1;call 0 0 1 2;");
    due("24: none", x.back(1), STATE);
    int graphs = x.rule(2);
    due("24: 2", x.back(2), BAD);
    due("24: -1", x.back(-1), BAD);
    x.keep(1);
    x.open(1);
    x.set(0, 1, 310);
    x.cut(1);
    x.keep(0);
    due("24: graphs are asked", x.rule(2), 1);
    due("24: back", x.back(1), 2);
    due("24: graphs are as they were", x.rule(2), graphs);
    due("24: functions", x.rule(0), 1);
    due("24: argument", x.argument(0, 1, 0), 1);
    due("24: graphs", x.call(0, 2), 64);
    x.set(0, 0, 9);
    due("24: the image is as it was", x.back(1), 2);
    due("24: so is the argument", x.argument(0, 0, 0), 4);
    due("24: the other", x.back(0), 1);
    due("24: its functions", x.rule(0), 2);
    feed(x, "fun");
    x.back(1);
    due("24: the tape stays", x.count(2), 3);
  }

  private static void promise25Sheet() {
    FallingCalls x = new FallingCalls();
    due("25: k 4", x.sheet(4, 0, 1), BAD);
    due("25: k -1", x.sheet(-1, 0, 1), BAD);
    due("25: lane 3", x.sheet(0, 3, 1), BAD);
    due("25: lane -1", x.sheet(0, -1, 1), BAD);
    due("25: 41", x.sheet(0, 0, 41), BAD);
    due("25: below 0", x.sheet(0, 0, -1), -14);
    due("25: least", x.sheet(3, 2, LEAST), -14);
    due("25: BAD before SIZE", x.sheet(4, 0, -1), BAD);
    due("25: BAD lane before SIZE", x.sheet(0, 3, -1), BAD);
    due("25: still nothing", x.count(3), NONE);
    due("25: 40", x.sheet(0, 2, 40), 1);
    due("25: cells", x.count(3), 40);
    due("25: refused", x.sheet(0, 2, -1), -14);
    due("25: changes nothing", x.count(3), 40);
    due("25: 0", x.sheet(0, 1, 0), 1);
    due("25: no cells", x.count(3), 0);
    x = told("fun 1;call 0 0 a;");
    x.sheet(1, 2, 3);
    x.lay(1, 2, 7);
    x.sheet(1, 2, 3);
    x.read(1, 2, 0, 1);
    due("25: new cells are 0", x.argument(0, 0, 2), 0);
  }

  private static void promise26Lay() {
    FallingCalls x = told("fun 2;call 0 0 a a;");
    due("26: k 4", x.lay(4, 0, 0), BAD);
    due("26: k -1", x.lay(-1, 0, 0), BAD);
    due("26: nothing", x.lay(2, 0, 0), -11);
    due("26: nothing first", x.lay(2, -1, 0), -11);
    x.sheet(2, 0, 3);
    due("26: -1", x.lay(2, -1, 0), -12);
    due("26: 3", x.lay(2, 3, 0), -12);
    due("26: most", x.lay(2, MOST, 0), -12);
    due("26: a byte", x.lay(2, 2, 256 + 9), 1);
    due("26: read", x.read(2, 0, 0, 1), 1);
    due("26: lowest bits", x.argument(0, 0, 2), 9);
    x.lay(2, 2, 201);
    due("26: a byte has a sign", x.read(2, 0, 0, 1), -20);
    x.sheet(2, 1, 3);
    x.lay(2, 2, 65536 + 219);
    due("26: a short", x.read(2, 1, 0, 1), 1);
    due("26: its lowest bits", x.argument(0, 0, 2), 9);
    x.lay(2, 2, 65535);
    due("26: a short has a sign", x.read(2, 1, 0, 1), -20);
    x.sheet(2, 2, 3);
    x.lay(2, 2, 65536 + 219);
    due("26: an int is whole", x.read(2, 2, 0, 1), -20);
    x.sheet(2, 2, 0);
    due("26: no cells", x.lay(2, 0, 0), -12);
  }

  private static void promise27Read() {
    FallingCalls x = told("fun 2;call 0 0 a a;call 0 0 b b;");
    due("27: k 4", x.read(4, 0, 0, 1), BAD);
    due("27: k -1", x.read(-1, 0, 0, 1), BAD);
    due("27: lane 3", x.read(0, 3, 0, 1), BAD);
    due("27: lane -1", x.read(0, -1, 0, 1), BAD);
    due("27: n 14", x.read(0, 0, 0, 14), BAD);
    due("27: n -1", x.read(0, 0, 0, -1), BAD);
    cells(x, 0, 9, 0, 0, 101, 1, 1, 202, 0, 0, 5);
    due("27: from 1 on", x.read(0, 2, 1, 3), 3);
    due("27: the later one counts", x.set(0, 0, 0), 5);
    due("27: the other", x.set(1, 1, 0), 202);
    due("27: three whole, then the edge", x.read(0, 2, 1, 4), 3);
    due("27: INDEX", x.torn(), 2);
    due("27: they came", x.argument(1, 1, 0), 2);
    due("27: 13", x.read(0, 2, 1, 13), 3);
    x.set(0, 0, 319);
    due("27: the 0th is refused", x.read(0, 2, 0, 3), -20);
    cells(x, 1, 0, 0, 7, 1, 0, 8, 2, 0, 9, 0, 0);
    due("27: the 2nd is refused", x.read(1, 2, 0, 4), -22);
    due("27: none came", x.argument(0, 0, 0), 3);
    due("27: none at all", x.argument(1, 0, 0), 1);
    due("27: graphs are asked", x.call(1, 3), 1);
    due("27: ahead of it", x.read(1, 2, 0, 2), 2);
    due("27: graphs follow", x.graph(1, 2), 6);
    due("27: came", x.argument(0, 0, 2), 7);
    due("27: a cut one is not looked at", x.read(1, 2, 9, 1), 0);
    due("27: f -1", x.read(1, 2, -1, 1), 0);
    due("27: f most", x.read(1, 2, MOST, 13), 0);
    due("27: f least", x.read(1, 2, LEAST, 13), 0);
    due("27: f near the most", x.read(1, 2, MOST - 1, 2), 0);
    due("27: another lane", x.read(1, 1, 0, 1), 0);
    due("27: nothing", x.read(2, 1, 0, 1), 0);
    due("27: none", x.read(1, 2, 0, 0), 0);
    due("27: graphs follow", x.call(1, 2), 6);
    due("27: all are closed anew", x.find(0, 0, 6), 1);
  }

  private static void promise28Torn() {
    FallingCalls x = told("fun 2;call 0 0 a a;");
    cells(x, 0, 0, 0, 7, 1, 0, 7);
    due("28: none", x.torn(), 0);
    x.read(1, 2, 0, 1);
    due("28: NULL", x.torn(), 1);
    x.read(0, 1, 99, 1);
    due("28: CAST before INDEX", x.torn(), 3);
    x.read(0, 2, 4, 1);
    due("28: INDEX", x.torn(), 2);
    x.read(0, 2, 0, 2);
    due("28: a refused one does not count", x.torn(), 2);
    x.read(0, 2, 0, 14);
    due("28: nor does a BAD one", x.torn(), 2);
    x.read(0, 2, 0, 1);
    due("28: 0 again", x.torn(), 0);
    x.read(0, 2, 5, 1);
    x.read(0, 2, 5, 0);
    due("28: nothing read, nothing found", x.torn(), 0);
    x.read(0, 2, 5, 1);
    x.lay(0, 99, 1);
    due("28: lay is no read", x.torn(), 2);
  }

  private static void promise29Count() {
    FallingCalls x = told("fun 2;fun 1;call 0 0 1 a;call 0 1 2;call 1 0 a 0;");
    feed(x, "abc");
    x.sheet(0, 1, 17);
    x.keep(1);
    int[] want = {1, 3, 3, 17, 3};
    for (int w = 0; w < 5; w++) due("29: count " + w, x.count(w), want[w]);
    int sum = 0;
    for (int g = 0; g < x.rule(2); g++) sum += x.graph(g, 2);
    due("29: codes", x.count(5), sum);
    due("29: codes by hand", told("fun 2;call 0 0 b-1 a;").count(5), 21 + 56 + 24);
    due("29: three arities", told("fun 2;fun 1;fun 2;").count(4), 5);
    feed(x, "zz");
    x.end(0);
    feed(x, "fun 1;");
    x.text();
    due("29: one arity", x.count(4), 1);
    due("29: 6", x.count(6), BAD);
    due("29: -1", x.count(-1), BAD);
  }
}
