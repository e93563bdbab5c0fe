import java.io.IOException;
import java.lang.management.ManagementFactory;
import java.lang.reflect.Constructor;
import java.lang.reflect.Field;
import java.lang.reflect.Method;
import java.lang.reflect.Modifier;
import java.nio.file.Files;
import java.nio.file.Path;
import java.util.Arrays;
import java.util.List;
import java.util.Set;
import java.util.TreeSet;
import java.util.regex.Matcher;
import java.util.regex.Pattern;
import java.util.stream.Stream;

/** The public face, rules of the language that can be seen, the room that calls take. */
public final class FaceTests {
  private static final Path SOURCE = Path.of("src/main/java/FallingCalls.java");
  private static final String[] METHODS = {
    "add 2", "argument 3", "back 1", "call 2", "compose 2", "count 1", "cut 1", "end 1", "fault 0", "feed 1",
    "find 3", "fun 2", "graph 2", "keep 1", "lay 3", "loops 0", "mend 0", "open 1", "read 4", "rule 1", "run 4",
    "set 3", "sheet 3", "spare 0", "text 0", "torn 0", "witness 1", "word 2"};

  private static int wrong = 0;

  public static void main(String[] args) throws Exception {
    face();
    members();
    nested();
    words(Files.readString(SOURCE));
    once(Path.of("."));
    room();
    System.out.println(wrong == 0 ? "FaceTests: all as due" : "FaceTests: " + wrong + " not as due");
    if (wrong != 0) System.exit(1);
  }

  private static void holds(String what, boolean is) {
    if (is) return;
    wrong++;
    System.out.println("not so: " + what);
  }

  private static void face() {
    int m = FallingCalls.class.getModifiers();
    holds("public final class", Modifier.isPublic(m) && Modifier.isFinal(m));
    Constructor<?>[] made = FallingCalls.class.getDeclaredConstructors();
    holds("one public constructor", made.length == 1 && Modifier.isPublic(made[0].getModifiers()) && made[0].getParameterCount() == 0);
    Set<String> open = new TreeSet<>();
    for (Method x : FallingCalls.class.getDeclaredMethods()) {
      if (!Modifier.isPrivate(x.getModifiers())) {
        open.add(x.getName() + " " + x.getParameterCount());
        holds(x + " is public, of ints", Modifier.isPublic(x.getModifiers()) && x.getReturnType() == int.class
            && Arrays.stream(x.getParameterTypes()).allMatch(t -> t == int.class) && !Modifier.isStatic(x.getModifiers()));
      }
    }
    holds("the methods of the document and no other: " + open, open.equals(new TreeSet<>(Arrays.asList(METHODS))));
    holds("BAD, STATE, FULL, NONE", FallingCalls.BAD == -1 && FallingCalls.STATE == -2 && FallingCalls.FULL == -3 && FallingCalls.NONE == -4);
  }

  private static void members() {
    Set<String> open = new TreeSet<>();
    int fields = 0;
    for (Field x : FallingCalls.class.getDeclaredFields()) {
      int m = x.getModifiers();
      if (!Modifier.isPrivate(m)) open.add(x.getName());
      if (Modifier.isStatic(m)) holds(x + " is final", Modifier.isFinal(m));
      else fields++;
    }
    holds("four open constants: " + open, open.equals(Set.of("BAD", "STATE", "FULL", "NONE")));
    holds("some twenty fields", fields <= 20);
  }

  private static void nested() {
    Set<String> names = new TreeSet<>();
    for (String s : METHODS) names.add(s.split(" ")[0]);
    Class<?>[] inside = FallingCalls.class.getDeclaredClasses();
    holds("twelve classes at most", inside.length < 12);
    for (Class<?> c : inside) {
      holds(c + " is static", Modifier.isStatic(c.getModifiers()));
      holds(c + " is not open", !Modifier.isPublic(c.getModifiers()) && !Modifier.isProtected(c.getModifiers()));
      int fields = 0;
      for (Field x : c.getDeclaredFields()) {
        if (Modifier.isStatic(x.getModifiers())) holds(x + " is final", Modifier.isFinal(x.getModifiers()));
        else fields++;
      }
      holds(c + " has some twenty fields", fields <= 20);
      for (Method x : c.getDeclaredMethods()) {
        holds(x + " has a name of its own", !names.contains(x.getName()));
        holds(x + " has at most seven parameters", x.getParameterCount() <= 7);
      }
    }
    for (Method x : FallingCalls.class.getDeclaredMethods()) {
      if (Modifier.isPrivate(x.getModifiers())) holds(x + " has a name of its own", !names.contains(x.getName()));
    }
  }

  private static void words(String source) {
    String code = source.replaceAll("(?s)/\\*.*?\\*/", " ").replaceAll("//[^\\n]*", " ").replaceAll("\"[^\"]*\"", "\"\"");
    String[] none = {"throw", "throws", "try", "catch", "synchronized", "assert", "package", "hashCode", "toString",
      "Object", "Exception", "Character", "System\\.out", "Random", "Thread", "->", "::", "@", "Exact\\b"};
    for (String word : none) {
      String edge = Character.isLetter(word.charAt(0)) ? "\\b" : "";
      holds("no " + word, !Pattern.compile(edge + word).matcher(code).find());
    }
    Matcher imports = Pattern.compile("import\\s+([\\w.]+)").matcher(code);
    while (imports.find()) holds("import " + imports.group(1), imports.group(1).equals("java.util.Arrays"));
    holds("signs 1 to 127 alone", source.chars().allMatch(c -> c > 0 && c < 128));
  }

  /** The program is one file: a copy of it, left behind anywhere in the project, is no part of it and may be wrong. */
  private static void once(Path project) throws IOException {
    Path kept = project.resolve(".git");
    try (Stream<Path> all = Files.walk(project)) {
      List<Path> copies = all.filter(p -> !p.startsWith(kept) && p.endsWith(SOURCE.getFileName())).toList();
      holds("one FallingCalls.java, at " + SOURCE + ": " + copies, copies.equals(List.of(project.resolve(SOURCE))));
    }
  }

  /** 512 of the dearest calls of one object make nothing: only the constructor does. */
  private static void room() {
    var bean = (com.sun.management.ThreadMXBean) ManagementFactory.getThreadMXBean();
    FallingCalls x = new FallingCalls();
    dear(x);
    long before = bean.getThreadAllocatedBytes(Thread.currentThread().getId());
    x = new FallingCalls();
    long made = bean.getThreadAllocatedBytes(Thread.currentThread().getId());
    dear(x);
    long after = bean.getThreadAllocatedBytes(Thread.currentThread().getId());
    holds("a new object takes few bytes: " + (made - before), made - before < 40_000);
    holds("512 dear calls take no bytes: " + (after - made), after - made < 10_000);
  }

  private static void dear(FallingCalls x) {
    for (int f = 0; f < 3; f++) x.open(2);
    for (int c = 0; c < 12; c++) x.add(c % 3, (c / 3 + c) % 3);
    int[] all = {100, 110, 101, 111, 400, 300, 310, 1};
    for (int i = 0; i < 480; i++) {
      x.set(i % 12, i / 12 % 2, all[i * 5 % 8]);
      i++;
      if (i % 3 == 0) x.mend();
      else if (i % 3 == 1) x.spare();
      else x.rule(7);
    }
    x.keep(0);
    x.back(0);
    x.sheet(0, 2, 40);
    x.read(0, 2, 0, 13);
    x.run(0, 9, 9, 1);
    x.feed(32);
    x.text();
  }
}
