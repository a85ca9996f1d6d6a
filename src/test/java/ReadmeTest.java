import java.lang.reflect.Method;
import java.nio.file.Files;
import java.nio.file.Path;
import java.util.Set;
import java.util.TreeSet;
import java.util.regex.Matcher;
import java.util.regex.Pattern;

/** What README.md tells of the class is true: its example's answers, and each call has its row. */
public final class ReadmeTest {
  private static final Check C = new Check();
  /** A line such as: x.range(1, 0, 20);  // 0: a range of kind 1. */
  private static final Pattern ASKED = Pattern.compile("^x\\.(\\w+)\\(([-0-9, ]*)\\);\\s*// (-?\\d+)", Pattern.MULTILINE);
  /** A row such as: | `over(p)` | what it answers |. */
  private static final Pattern ROW = Pattern.compile("^\\| `(\\w+)\\(([^)]*)\\)` \\|", Pattern.MULTILINE);

  public static void main(String[] args) throws Exception {
    String readme = Files.readString(Path.of("README.md"));
    example(readme);
    rows(readme);
    C.end();
  }

  private static void example(String readme) throws Exception {
    C.about("README.md, the example");
    NestRanges x = new NestRanges();
    int asked = 0;
    for (Matcher line = ASKED.matcher(readme); line.find(); asked++) {
      Object[] numbers = numbers(line.group(2));
      Class<?>[] types = new Class<?>[numbers.length];
      java.util.Arrays.fill(types, int.class);
      Method call = NestRanges.class.getMethod(line.group(1), types);
      C.due(line.group(), ((Number) call.invoke(x, numbers)).longValue(), Long.parseLong(line.group(3)));
    }
    C.holds("it has at least eight calls", asked >= 8);
  }

  private static Object[] numbers(String list) {
    if (list.isBlank()) return new Object[0];
    String[] parts = list.split(",");
    Object[] numbers = new Object[parts.length];
    for (int i = 0; i < parts.length; i++) numbers[i] = Integer.valueOf(parts[i].trim());
    return numbers;
  }

  private static void rows(String readme) {
    C.about("README.md, the table of calls");
    Set<String> told = new TreeSet<>(), due = new TreeSet<>();
    for (Matcher row = ROW.matcher(readme); row.find();) {
      int parameters = row.group(2).isBlank() ? 0 : row.group(2).split(",").length;
      told.add(row.group(1) + " of " + parameters);
    }
    for (Method m : NestRanges.class.getDeclaredMethods()) {
      if (java.lang.reflect.Modifier.isPublic(m.getModifiers())) due.add(m.getName() + " of " + m.getParameterCount());
    }
    C.same("calls", told.toString(), due.toString());
  }
}
