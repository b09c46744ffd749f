import java.lang.reflect.Constructor;
import java.lang.reflect.Field;
import java.lang.reflect.Method;
import java.lang.reflect.Modifier;
import java.nio.file.Files;
import java.nio.file.Path;
import java.util.Arrays;
import java.util.Set;
import java.util.TreeSet;
import java.util.regex.Matcher;
import java.util.regex.Pattern;

/** What of LANGUAGE.md can be looked up in the source and the compiled class. */
public final class LanguageTest {
  private static final Checks CHECKS = new Checks();
  private static final String FACE = "feed back read place reg cell kind block gone set put run clear rename units undo"
      + " traces trace member item needs copied busy slow fast agrees left growth saved hold restore count";

  private LanguageTest() { }

  public static void main(String[] args) throws Exception {
    String source = Files.readString(Path.of(System.getProperty("tracedesk.source", "src/main/java/TraceDesk.java")));
    String code = source.replaceAll("(?s)/\\*.*?\\*/", "").replaceAll("//.*", "").replaceAll("\"[^\"]*\"", "\"\"");
    face();
    inside();
    words(code);
    objects(code);
    lengths(code);
    CHECKS.end("LanguageTest");
  }

  private static void face() {
    CHECKS.due("public final", Modifier.isFinal(TraceDesk.class.getModifiers()), true);
    Set<String> due = new TreeSet<>(Arrays.asList(FACE.split(" ")));
    Set<String> open = new TreeSet<>();
    for (Method method : TraceDesk.class.getDeclaredMethods()) {
      if (Modifier.isPublic(method.getModifiers())) {
        CHECKS.due(method.getName() + " stands once", open.add(method.getName()), true);
      } else {
        CHECKS.due(method.getName() + " is private", Modifier.isPrivate(method.getModifiers()), true);
        CHECKS.due(method.getName() + " has a name of its own", due.contains(method.getName()), false);
      }
    }
    CHECKS.due("the face " + open, open.equals(due), true);
    for (Field field : TraceDesk.class.getDeclaredFields()) {
      boolean none = field.getName().equals("NONE");
      CHECKS.due(field.getName() + " is private", Modifier.isPrivate(field.getModifiers()), !none);
    }
    Constructor<?>[] made = TraceDesk.class.getDeclaredConstructors();
    CHECKS.due("one constructor", made.length, 1);
  }

  private static void inside() {
    Class<?>[] classes = TraceDesk.class.getDeclaredClasses();
    CHECKS.due("some twelve classes", classes.length <= 12, true);
    for (Class<?> inner : classes) {
      CHECKS.due(inner + " is static", Modifier.isStatic(inner.getModifiers()), true);
      CHECKS.due(inner + " has no classes inside", inner.getDeclaredClasses().length, 0);
      int fields = 0;
      for (Field field : inner.getDeclaredFields()) {
        boolean fixed = Modifier.isStatic(field.getModifiers());
        fields += fixed ? 0 : 1;
        CHECKS.due(field + " is final if static", !fixed || Modifier.isFinal(field.getModifiers()), true);
      }
      CHECKS.due(inner + " has some twenty fields", fields <= 20, true);
      for (Method method : inner.getDeclaredMethods()) {
        CHECKS.due(method + " takes seven at most", method.getParameterCount() <= 7, true);
        CHECKS.due(method + " bears a name of its own", FACE.matches(".*\\b" + method.getName() + "\\b.*"), false);
      }
    }
  }

  private static void words(String code) {
    String[] banned = {"throw", "throws", "try", "catch", "finally", "synchronized", "assert", "package", "var", "native",
      "instanceof", "double", "float", "Object", "Random", "Thread", "\\w+Exact", "hashCode", "toString", "while \\(true\\)"};
    for (String word : banned) {
      CHECKS.due("no " + word, Pattern.compile("\\b" + word + "\\b").matcher(code).find(), false);
    }
    CHECKS.due("no lambda", code.contains("->"), false);
    CHECKS.due("no method reference", code.contains("::"), false);
    CHECKS.due("no texts joined by +", code.matches("(?s).*(\"\" *\\+|\\+ *\"\").*"), false);
    Matcher imports = Pattern.compile("import ([\\w.]+);").matcher(code);
    while (imports.find()) {
      CHECKS.due(imports.group(1), imports.group(1).equals("java.util.Arrays"), true);
    }
  }

  /** Rows are made with the desk: outside of fields and constructors stands no new. */
  private static void objects(String code) {
    String at = "";
    Pattern head = Pattern.compile("^ {4,8}(?:[\\w\\[\\]<>]+ )*(\\w+)\\([^;]*\\{$");
    for (String line : code.split("\n")) {
      Matcher method = head.matcher(line);
      if (method.find()) {
        at = method.group(1);
      } else if (line.matches(" {4,8}\\}")) {
        at = "";
      }
      boolean made = Pattern.compile("\\bnew\\b").matcher(line).find();
      boolean inMethod = !at.isEmpty() && Character.isLowerCase(at.charAt(0));
      CHECKS.due("new in " + at, made && inMethod, false);
    }
  }

  private static void lengths(String code) {
    int from = -1;
    String[] lines = code.split("\n");
    for (int i = 0; i < lines.length; i++) {
      if (lines[i].matches("^ {4,8}(?:[\\w\\[\\]<>]+ )*\\w+\\([^;]*\\{$")) {
        from = i;
      } else if (from >= 0 && lines[i].matches(" {4,8}\\}")) {
        CHECKS.due("a method of some sixty lines: " + lines[from], i - from <= 60, true);
        from = -1;
      }
    }
  }
}
