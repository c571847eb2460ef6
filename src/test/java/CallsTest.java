import com.sun.source.tree.ClassTree;
import com.sun.source.tree.CompilationUnitTree;
import com.sun.source.tree.MethodInvocationTree;
import com.sun.source.tree.MethodTree;
import com.sun.source.tree.NewClassTree;
import com.sun.source.util.JavacTask;
import com.sun.source.util.TreePathScanner;
import com.sun.source.util.Trees;
import java.util.ArrayList;
import java.util.List;
import java.util.Map;
import java.util.Set;
import java.util.TreeMap;
import java.util.TreeSet;
import javax.lang.model.element.Element;
import javax.lang.model.element.Modifier;
import javax.tools.JavaCompiler;
import javax.tools.StandardJavaFileManager;
import javax.tools.ToolProvider;

/** Rules 8 and 11 of LANGUAGE.md: how deep calls go, which of them are recursion, and what that looks like. */
public final class CallsTest {
  private static final int DEEPEST = 8;
  private static final Due due = new Due();
  /** Each method of the class with those of its own methods that it calls. */
  private static final Map<String, Set<String>> calls = new TreeMap<>();
  private static final Map<String, MethodTree> methods = new TreeMap<>();

  public static void main(String[] args) throws Exception {
    readClass();
    due.yes("methods were found", methods.size() > 100);
    due.yes("calls were found", chain("HairpinLocks.orders").size() > 2);
    for (String method : methods.keySet()) {
      List<String> deepest = chain(method);
      due.yes("at most eight deep: " + deepest, deepest.size() <= DEEPEST);
      if (isRecursion(method)) {
        MethodTree tree = methods.get(method);
        due.yes("recursion is private: " + method, tree.getModifiers().getFlags().contains(Modifier.PRIVATE));
        due.yes("recursion carries its depth: " + method, tree.getParameters().size() > 0);
      }
    }
    due.end();
  }

  private static void readClass() throws Exception {
    JavaCompiler compiler = ToolProvider.getSystemJavaCompiler();
    try (StandardJavaFileManager files = compiler.getStandardFileManager(null, null, null)) {
      JavacTask task = (JavacTask) compiler.getTask(null, files, null, List.of("--release", "17"), null,
          files.getJavaFileObjects("src/main/java/HairpinLocks.java"));
      Trees trees = Trees.instance(task);
      for (CompilationUnitTree unit : task.parse()) {
        task.analyze();
        new Reader(trees).scan(unit, null);
      }
    }
  }

  private static final class Reader extends TreePathScanner<Void, Void> {
    private final Trees trees;
    private String method;

    Reader(Trees trees) {
      this.trees = trees;
    }

    private static String nameOf(Element e) {
      return e.getEnclosingElement().getSimpleName() + "." + e.getSimpleName();
    }

    @Override
    public Void visitClass(ClassTree tree, Void none) {
      String outside = method;
      method = null;
      super.visitClass(tree, none);
      method = outside;
      return null;
    }

    @Override
    public Void visitMethod(MethodTree tree, Void none) {
      method = nameOf(trees.getElement(getCurrentPath()));
      due.no("two methods of one name, which can't be told apart here: " + method, methods.containsKey(method));
      methods.put(method, tree);
      calls.put(method, new TreeSet<>());
      super.visitMethod(tree, none);
      method = null;
      return null;
    }

    @Override
    public Void visitMethodInvocation(MethodInvocationTree tree, Void none) {
      note(trees.getElement(getCurrentPath()));
      return super.visitMethodInvocation(tree, none);
    }

    @Override
    public Void visitNewClass(NewClassTree tree, Void none) {
      note(trees.getElement(getCurrentPath()));
      return super.visitNewClass(tree, none);
    }

    private void note(Element called) {
      if (method != null) {
        calls.get(method).add(nameOf(called));
      }
    }
  }

  /** All that a method calls, straight or by others. */
  private static Set<String> reached(String method) {
    Set<String> seen = new TreeSet<>();
    List<String> open = new ArrayList<>(List.of(method));
    while (!open.isEmpty()) {
      for (String next : calls.getOrDefault(open.remove(open.size() - 1), Set.of())) {
        if (methods.containsKey(next) && seen.add(next)) {
          open.add(next);
        }
      }
    }
    return seen;
  }

  private static boolean isRecursion(String method) {
    return reached(method).contains(method);
  }

  /** The longest row of calls from a method on; methods that call one another stand in it as one. */
  private static List<String> chain(String method) {
    Set<String> together = new TreeSet<>(Set.of(method));
    for (String other : reached(method)) {
      if (reached(other).contains(method)) {
        together.add(other);
      }
    }
    List<String> longest = new ArrayList<>();
    for (String one : together) {
      for (String next : calls.get(one)) {
        if (methods.containsKey(next) && !together.contains(next)) {
          List<String> row = chain(next);
          longest = row.size() > longest.size() ? row : longest;
        }
      }
    }
    List<String> whole = new ArrayList<>(List.of(together.toString()));
    whole.addAll(longest);
    return whole;
  }
}
