import java.io.IOException;
import java.lang.reflect.Method;
import java.lang.reflect.Modifier;
import java.nio.file.Files;
import java.nio.file.Path;
import java.util.Arrays;
import java.util.regex.Matcher;
import java.util.regex.Pattern;

/** The example of README.md answers as its comments say, and no call of the face is left out there. */
public final class ReadmeTests extends Checks {
  private static final Pattern TEXT = Pattern.compile("String text = \"([^\"]*)\";");
  private static final Pattern ROW = Pattern.compile("(?m)^x\\.(\\w+)\\(([-\\d, ]*)\\); *// (-?\\d+):");

  public static void main(String[] args) throws IOException, ReflectiveOperationException {
    String page = Files.readString(Path.of("README.md"));
    example(page);
    for (Method m : FallingCalls.class.getDeclaredMethods()) {
      if (Modifier.isPublic(m.getModifiers())) due(m.getName() + " stands there", page.contains("`" + m.getName() + "`") ? 1 : 0, 1);
    }
    conclude("ReadmeTests");
  }

  private static void example(String page) throws ReflectiveOperationException {
    Matcher text = TEXT.matcher(page);
    due("there is a text", text.find() ? 1 : 0, 1);
    FallingCalls x = new FallingCalls();
    feed(x, text.group(1));
    Matcher row = ROW.matcher(page);
    int rows = 0;
    for (; row.find(); rows++) {
      int[] numbers = row.group(2).isEmpty() ? new int[0]
          : Arrays.stream(row.group(2).split(", *")).mapToInt(Integer::parseInt).toArray();
      due(row.group(1) + "(" + row.group(2) + ")", answer(x, row.group(1), numbers), Integer.parseInt(row.group(3)));
    }
    due("rows", rows >= 10 ? 1 : 0, 1);
  }

  private static int answer(FallingCalls x, String name, int[] numbers) throws ReflectiveOperationException {
    Class<?>[] types = new Class<?>[numbers.length];
    Arrays.fill(types, int.class);
    Object[] values = Arrays.stream(numbers).boxed().toArray();
    return (int) FallingCalls.class.getMethod(name, types).invoke(x, values);
  }
}
