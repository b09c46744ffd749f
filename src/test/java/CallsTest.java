import com.sun.source.tree.ClassTree;
import com.sun.source.tree.CompilationUnitTree;
import com.sun.source.tree.MethodInvocationTree;
import com.sun.source.tree.MethodTree;
import com.sun.source.tree.NewClassTree;
import com.sun.source.tree.VariableTree;
import com.sun.source.util.JavacTask;
import com.sun.source.util.TreePathScanner;
import com.sun.source.util.Trees;
import java.util.ArrayDeque;
import java.util.ArrayList;
import java.util.Deque;
import java.util.HashMap;
import java.util.List;
import java.util.Map;
import java.util.Set;
import java.util.TreeMap;
import java.util.TreeSet;
import javax.lang.model.element.Element;
import javax.lang.model.element.Modifier;
import javax.lang.model.type.ArrayType;
import javax.lang.model.type.TypeKind;
import javax.lang.model.type.TypeMirror;
import javax.tools.JavaCompiler;
import javax.tools.StandardJavaFileManager;
import javax.tools.ToolProvider;

/** LANGUAGE.md's rules on calls, types and sizes, as the compiler understands the source. */
public final class CallsTest {
  private static final Checks CHECKS = new Checks();
  private static final Set<String> LIBRARY = Set.of("java.lang.String.length()", "java.lang.String.charAt(int)",
      "java.lang.Math.max(int,int)", "java.lang.Math.min(int,int)", "java.util.Arrays.fill(int[],int)",
      "java.util.Arrays.fill(long[],long)", "java.lang.System.arraycopy(java.lang.Object,int,java.lang.Object,int,int)");
  private static final Set<String> OWN = new TreeSet<>();
  private static final Map<String, Set<String>> CALLED = new TreeMap<>();
  private static final Map<String, Integer> DEPTHS = new HashMap<>();
  private static final Map<String, Integer> FIELDS = new TreeMap<>();

  private CallsTest() { }

  public static void main(String[] args) throws Exception {
    JavaCompiler javac = ToolProvider.getSystemJavaCompiler();
    StandardJavaFileManager files = javac.getStandardFileManager(null, null, null);
    String source = System.getProperty("tracedesk.source", "src/main/java/TraceDesk.java");
    JavacTask task = (JavacTask) javac.getTask(null, files, null, List.of(), null, files.getJavaFileObjects(source));
    List<CompilationUnitTree> units = new ArrayList<>();
    task.parse().forEach(units::add);
    task.analyze();
    for (CompilationUnitTree unit : units) {
      new Reader(Trees.instance(task)).scan(unit, null);
    }
    calls();
    FIELDS.forEach((name, many) -> CHECKS.due(name + " has some twenty fields at most", many <= 20, true));
    CHECKS.due("some twelve classes", FIELDS.size() <= 12, true);
    CHECKS.end("CallsTest");
  }

  /** Rules 4, 8 and 11: what is called, that nothing calls itself, how deep calls go. */
  private static void calls() {
    CALLED.values().forEach(all -> all.forEach(
        name -> CHECKS.due(name + " may be called", OWN.contains(name) || LIBRARY.contains(name), true)));
    for (String name : OWN) {
      CHECKS.due(name + " goes eight deep at most", depth(name, new ArrayDeque<>()) <= 8, true);
    }
  }

  private static int depth(String name, Deque<String> open) {
    if (open.contains(name)) {
      CHECKS.due(name + " does not call itself", false, true);
      return 0;
    }
    if (DEPTHS.containsKey(name)) {
      return DEPTHS.get(name);
    }
    open.push(name);
    int deepest = 0;
    for (String called : CALLED.getOrDefault(name, Set.of())) {
      deepest = Math.max(deepest, depth(called, open));
    }
    open.pop();
    DEPTHS.put(name, deepest + 1);
    return deepest + 1;
  }

  /** Reads the source: who calls whom, what is declared. */
  private static final class Reader extends TreePathScanner<Void, Void> {
    private final Trees trees;
    private String in = "";

    private Reader(Trees trees) {
      this.trees = trees;
    }

    private static String nameOf(Element element) {
      return element.getEnclosingElement() + "." + element;
    }

    private void calls(Element called) {
      CALLED.computeIfAbsent(in, name -> new TreeSet<>()).add(nameOf(called));
    }

    @Override
    public Void visitClass(ClassTree tree, Void none) {
      FIELDS.put(trees.getElement(getCurrentPath()).toString(), 0);
      return super.visitClass(tree, none);
    }

    @Override
    public Void visitMethod(MethodTree tree, Void none) {
      String outside = in;
      in = nameOf(trees.getElement(getCurrentPath()));
      OWN.add(in);
      super.visitMethod(tree, none);
      in = outside;
      return null;
    }

    @Override
    public Void visitMethodInvocation(MethodInvocationTree tree, Void none) {
      Element called = trees.getElement(getCurrentPath());
      if (!called.toString().equals("Object()")) {
        calls(called);
      }
      return super.visitMethodInvocation(tree, none);
    }

    @Override
    public Void visitNewClass(NewClassTree tree, Void none) {
      calls(trees.getElement(getCurrentPath()));
      return super.visitNewClass(tree, none);
    }

    @Override
    public Void visitVariable(VariableTree tree, Void none) {
      Element variable = trees.getElement(getCurrentPath());
      boolean constant = variable.getModifiers().contains(Modifier.STATIC);
      if (variable.getKind().isField() && !constant) {
        FIELDS.merge(variable.getEnclosingElement().toString(), 1, Integer::sum);
      }
      type(nameOf(variable), variable.asType());
      return super.visitVariable(tree, none);
    }

    /** Rule 3. */
    private static void type(String name, TypeMirror type) {
      TypeMirror part = type;
      int dimensions = 0;
      while (part.getKind() == TypeKind.ARRAY) {
        part = ((ArrayType) part).getComponentType();
        dimensions++;
      }
      boolean number = part.getKind().isPrimitive();
      boolean own = part.toString().startsWith("TraceDesk");
      boolean text = part.toString().equals("java.lang.String") && dimensions == 0;
      CHECKS.due(name + " is of a type that may be", number || own || text, true);
      CHECKS.due(name + " has not too many dimensions", dimensions <= (number ? 2 : 1), true);
    }
  }
}
