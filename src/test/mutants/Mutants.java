import java.io.File;
import java.io.StringWriter;
import java.net.URI;
import java.nio.file.Files;
import java.nio.file.Path;
import java.util.ArrayList;
import java.util.Comparator;
import java.util.List;
import java.util.concurrent.ExecutorService;
import java.util.concurrent.Executors;
import java.util.concurrent.Future;
import java.util.concurrent.TimeUnit;
import java.util.regex.Matcher;
import java.util.regex.Pattern;
import java.util.stream.Stream;
import javax.tools.JavaCompiler;
import javax.tools.JavaFileObject;
import javax.tools.SimpleJavaFileObject;
import javax.tools.ToolProvider;

/**
 * Breaks the class at one place after the other and tells where the tests of the boundaries notice nothing.
 * Run by hand (src/test/mutants/run), as it takes minutes. Arguments: the source, the tests' classes, the document.
 */
public final class Mutants {
  /** Each is broken by each of those behind it. */
  private static final String[][] BREAKS = {
    {" < ", " <= "}, {" <= ", " < "}, {" > ", " >= "}, {" >= ", " > "}, {" == ", " != "}, {" != ", " == "},
    {" && ", " || "}, {" \\|\\| ", " && "}, {" \\+ ", " - "}, {" - ", " + "}, {" \\* ", " + "}, {" >> ", " << "},
    {"\\+\\+;", "--;"}, {"--;", "++;"}, {" \\+= ", " = ", " -= "}, {" \\|= ", " = ", " &= "}, {" &= ", " |= "},
    {" \\| ", " & "}, {" & ", " | "}, {"\\btrue\\b", "false"}, {"\\bfalse\\b", "true"}, {"Math\\.max", "Math.min"},
    {"Math\\.min", "Math.max"}, {"\\(!", "("}, {" !(?=\\w)", " "}, {"(?<=if )\\((?=.*\\) \\{$)", "(0 != 0 && ", "(0 == 0 || "}};
  private static final Pattern NUMBER = Pattern.compile("(?<![\\w.])\\d+(?!\\w)");

  private record Mutant(int line, String what, String source) { }

  private final List<String> lines;
  private final List<Mutant> all = new ArrayList<>();

  private Mutants(List<String> lines) {
    this.lines = lines;
  }

  public static void main(String[] args) throws Exception {
    Mutants mutants = new Mutants(Files.readAllLines(Path.of(args[0])));
    mutants.make();
    ExecutorService pool = Executors.newFixedThreadPool(Runtime.getRuntime().availableProcessors());
    List<Future<Boolean>> noticed = new ArrayList<>();
    for (Mutant mutant : mutants.all) {
      noticed.add(pool.submit(() -> isNoticed(mutant, args[1], args[2])));
    }
    int missed = 0;
    for (int i = 0; i < noticed.size(); i++) {
      if (!noticed.get(i).get()) {
        Mutant mutant = mutants.all.get(i);
        System.out.println(mutant.line + ": " + mutants.lines.get(mutant.line - 1).trim() + "  ## " + mutant.what);
        missed++;
      }
    }
    pool.shutdown();
    System.out.println(noticed.size() + " mutants, " + missed + " not noticed");
  }

  private void make() {
    boolean inComment = false;
    for (int n = 0; n < lines.size(); n++) {
      String line = lines.get(n).trim();
      inComment |= line.startsWith("/*");
      if (!inComment && !line.isEmpty() && !line.startsWith("import")) {
        breakLine(n, line);
      }
      inComment &= !line.endsWith("*/");
    }
  }

  private void breakLine(int n, String line) {
    for (String[] row : BREAKS) {
      Matcher found = Pattern.compile(row[0]).matcher(lines.get(n));
      while (found.find()) {
        for (int i = 1; i < row.length; i++) {
          replace(n, found, row[i]);
        }
      }
    }
    Matcher number = NUMBER.matcher(lines.get(n));
    while (number.find()) {
      long value = Long.parseLong(number.group());
      replace(n, number, String.valueOf(value + 1));
      replace(n, number, String.valueOf(Math.max(0, value - 1)));
    }
    if (line.startsWith("return ")) {
      change(n, "return 0", "return 0;");
      change(n, "return -1", "return -1;");
    } else if (line.endsWith(";") && !line.matches("(private|static|final|int|boolean|break).*")) {
      change(n, "gone", "");
    }
  }

  private void replace(int n, Matcher found, String by) {
    String line = lines.get(n);
    change(n, found.group() + " -> " + by + " at " + found.start(),
        line.substring(0, found.start()) + by + line.substring(found.end()));
  }

  private void change(int n, String what, String line) {
    if (!line.equals(lines.get(n))) {
      List<String> changed = new ArrayList<>(lines);
      changed.set(n, line);
      all.add(new Mutant(n + 1, what, String.join("\n", changed) + "\n"));
    }
  }

  /** What can't be compiled, throws or does not end is noticed. */
  private static boolean isNoticed(Mutant mutant, String tests, String document) throws Exception {
    Path classes = Files.createTempDirectory("mutant");
    try {
      JavaFileObject source = new SimpleJavaFileObject(URI.create("string:///TraceDesk.java"), JavaFileObject.Kind.SOURCE) {
        @Override
        public CharSequence getCharContent(boolean ignoreErrors) {
          return mutant.source;
        }
      };
      JavaCompiler javac = ToolProvider.getSystemJavaCompiler();
      if (!javac.getTask(new StringWriter(), null, null, List.of("-d", classes.toString()), null, List.of(source)).call()) {
        return true;
      }
      Process run = new ProcessBuilder("java", "-XX:TieredStopAtLevel=1", "-XX:+UseSerialGC", "-Dtracedesk.document=" + document,
          "-cp", classes + File.pathSeparator + tests, "AllBoundaries")
          .redirectErrorStream(true).redirectOutput(ProcessBuilder.Redirect.DISCARD).start();
      if (!run.waitFor(60, TimeUnit.SECONDS)) {
        run.destroyForcibly();
        return true;
      }
      return run.exitValue() != 0;
    } finally {
      try (Stream<Path> left = Files.walk(classes)) {
        left.sorted(Comparator.reverseOrder()).forEach(path -> path.toFile().delete());
      }
    }
  }
}
