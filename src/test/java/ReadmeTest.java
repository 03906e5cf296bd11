import java.io.IOException;
import java.lang.reflect.Method;
import java.nio.file.Files;
import java.nio.file.Path;
import java.util.Set;
import java.util.TreeSet;
import java.util.regex.Matcher;
import java.util.regex.Pattern;

/** Makes the calls of the example in README.md, and compares them with the answers told there. */
public final class ReadmeTest extends Trial {
  private static final Pattern CALL =
      Pattern.compile("x\\.(\\w+)\\(([-\\d, ]*)\\);\\s*// (-?\\w+)(:.*)?");

  private static Method methodOf(String name) {
    for (Method method : TwigMerge.class.getDeclaredMethods()) {
      if (method.getName().equals(name)) {
        return method;
      }
    }
    throw new IllegalStateException("no such method: " + name);
  }

  private static Object[] numbersOf(String text) {
    if (text.isEmpty()) {
      return new Object[0];
    }
    String[] parts = text.split(", ");
    Object[] numbers = new Object[parts.length];
    for (int i = 0; i < parts.length; i++) {
      numbers[i] = Integer.valueOf(parts[i]);
    }
    return numbers;
  }

  public static void main(String[] args) throws IOException, ReflectiveOperationException {
    about("README.md");
    TwigMerge x = new TwigMerge();
    Set<String> shown = new TreeSet<>();
    for (String line : Files.readAllLines(Path.of("README.md"))) {
      if (!line.startsWith("x.")) {
        continue;
      }
      Matcher call = CALL.matcher(line);
      due("the form of: " + line, call.matches(), true);
      if (call.matches()) {
        Object got = methodOf(call.group(1)).invoke(x, numbersOf(call.group(2)));
        due(line, String.valueOf(got), call.group(3));
        shown.add(call.group(1));
      }
    }
    due("the calls that are shown", shown, new TreeSet<>(Set.of("add", "clear", "size", "height",
        "alike", "diff", "partner", "step", "count", "replay", "merge", "node", "equal")));
    finish();
  }
}
