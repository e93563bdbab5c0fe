import java.io.IOException;
import java.nio.file.Files;
import java.nio.file.Path;

/** What the tests by hand have in common: they extend it, for its static functions. */
abstract class Checks {
  protected static final int BAD = FallingCalls.BAD, STATE = FallingCalls.STATE;
  protected static final int FULL = FallingCalls.FULL, NONE = FallingCalls.NONE;
  protected static final int LEAST = Integer.MIN_VALUE, MOST = Integer.MAX_VALUE;

  private static final Path DOCUMENT = Path.of("../shared/DOC.md");
  private static final String WORDS = documentWords();

  private static int wrong = 0;
  private static String sentence = "";

  /** The sentence of the document that the next checks are of: it stands there, word by word. */
  protected static void says(String quote) {
    sentence = quote;
    if (WORDS.isEmpty() || WORDS.contains(quote)) return;
    wrong++;
    System.out.println("the document does not say: " + quote);
  }

  /** The document with one blank between words; empty, if it is not there. */
  private static String documentWords() {
    try {
      return Files.isReadable(DOCUMENT) ? Files.readString(DOCUMENT).replaceAll("\\s+", " ") : "";
    } catch (IOException e) {
      return "";
    }
  }

  protected static void due(String what, int got, int want) {
    if (got == want) return;
    wrong++;
    System.out.println(what + " answered " + got + ", due is " + want + (sentence.isEmpty() ? "" : " (" + sentence + ")"));
  }

  /** Answers that are due, one behind another. */
  protected static void row(String what, int[] got, int... want) {
    due(what + ", how many", got.length, want.length);
    for (int i = 0; i < Math.min(got.length, want.length); i++) due(what + ", the " + i + "-th", got[i], want[i]);
  }

  protected static void conclude(String name) {
    System.out.println(name + (wrong == 0 ? ": all as due" : ": " + wrong + " not as due"));
    if (wrong != 0) System.exit(1);
  }

  protected static void feed(FallingCalls x, String text) {
    for (int i = 0; i < text.length(); i++) x.feed(text.charAt(i));
  }

  protected static int tell(FallingCalls x, String text) {
    feed(x, text);
    return x.text();
  }

  /** A new object that has taken a text. */
  protected static FallingCalls told(String text) {
    FallingCalls x = new FallingCalls();
    int lines = tell(x, text);
    if (lines < 0) due("text of " + text, lines, 0);
    return x;
  }

  protected static void taken(String text, int lines) {
    FallingCalls x = new FallingCalls();
    due("text() of " + text, tell(x, text), lines);
    due("fault() of " + text, x.fault(), 0);
  }

  protected static void faulty(String text, int fault, int place) {
    FallingCalls x = new FallingCalls();
    due("text() of " + text, tell(x, text), -10 - place);
    due("fault() of " + text, x.fault(), fault);
    due("functions after " + text, x.rule(0), 0);
  }

  protected static FallingCalls opened(int... arities) {
    FallingCalls x = new FallingCalls();
    for (int a : arities) x.open(a);
    return x;
  }

  /** A call more, with arguments told as by set(). */
  protected static int put(FallingCalls x, int from, int to, int... arguments) {
    int c = x.add(from, to) - 1;
    for (int k = 0; k < arguments.length; k++) x.set(c, k, arguments[k]);
    return c;
  }

  /** A sheet of ints. */
  protected static void cells(FallingCalls x, int k, int... all) {
    x.sheet(k, 2, all.length);
    for (int i = 0; i < all.length; i++) x.lay(k, i, all[i]);
  }

  protected static String times(int many, String part) {
    return part.repeat(many);
  }

  /** A text with blanks behind it up to a length. */
  protected static String wide(String text, int length) {
    return text + " ".repeat(length - text.length());
  }
}
