import java.lang.reflect.Method;
import java.lang.reflect.Modifier;
import java.nio.file.Files;
import java.nio.file.Path;
import java.util.regex.Matcher;
import java.util.regex.Pattern;

/** README.md's example is called row by row: its answers must be those of the class, and each method must be told of. */
public final class ReadmeTest {
  private static final Checks CHECKS = new Checks();
  private static final Pattern TAPE = Pattern.compile("tape\\(desk, \"([^\"]*)\"\\);");
  private static final Pattern CALL = Pattern.compile("desk\\.(\\w+)\\(([^)]*)\\); +// (\\S+).*");

  private ReadmeTest() { }

  public static void main(String[] args) throws Exception {
    String readme = Files.readString(Path.of(System.getProperty("tracedesk.readme", "README.md")));
    Matcher example = Pattern.compile("(?s)```java\n(.*?)```").matcher(readme);
    CHECKS.due("there is an example", example.find(), true);
    String[] rows = example.group(1).split("\n");
    CHECKS.due(rows[0], rows[0], "TraceDesk desk = new TraceDesk();");
    TraceDesk desk = new TraceDesk();
    for (int i = 1; i < rows.length; i++) {
      row(desk, rows[i]);
    }
    for (Method method : TraceDesk.class.getDeclaredMethods()) {
      boolean told = readme.contains("`" + method.getName() + "`");
      CHECKS.due(method.getName() + " is told of", told || !Modifier.isPublic(method.getModifiers()), true);
    }
    CHECKS.end("ReadmeTest");
  }

  private static void row(TraceDesk desk, String row) throws Exception {
    Matcher tape = TAPE.matcher(row);
    Matcher call = CALL.matcher(row);
    if (tape.matches()) {
      Checks.tape(desk, tape.group(1));
    } else if (call.matches()) {
      CHECKS.due(row, answer(desk, call.group(1), call.group(2)), call.group(3));
    } else {
      CHECKS.due("a row to be read: " + row, false, true);
    }
  }

  /** All arguments of the example are ints. */
  private static String answer(TraceDesk desk, String name, String told) throws Exception {
    String[] parts = told.isEmpty() ? new String[0] : told.split(", ");
    Class<?>[] sorts = new Class<?>[parts.length];
    Object[] values = new Object[parts.length];
    for (int i = 0; i < parts.length; i++) {
      sorts[i] = int.class;
      values[i] = Integer.parseInt(parts[i]);
    }
    return String.valueOf(TraceDesk.class.getMethod(name, sorts).invoke(desk, values));
  }
}
