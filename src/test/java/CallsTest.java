import com.sun.source.tree.CompilationUnitTree;
import com.sun.source.tree.DoWhileLoopTree;
import com.sun.source.tree.MethodInvocationTree;
import com.sun.source.tree.MethodTree;
import com.sun.source.tree.NewClassTree;
import com.sun.source.tree.TypeCastTree;
import com.sun.source.tree.WhileLoopTree;
import com.sun.source.util.JavacTask;
import com.sun.source.util.TreePathScanner;
import com.sun.source.util.Trees;
import java.io.IOException;
import java.nio.file.Path;
import java.util.HashMap;
import java.util.LinkedHashMap;
import java.util.LinkedHashSet;
import java.util.List;
import java.util.Map;
import java.util.Set;
import java.util.TreeSet;
import javax.lang.model.element.Element;
import javax.lang.model.element.ElementKind;
import javax.lang.model.element.Modifier;
import javax.lang.model.element.TypeElement;
import javax.tools.JavaCompiler;
import javax.tools.StandardJavaFileManager;
import javax.tools.ToolProvider;

/**
 * The rules of LANGUAGE.md that are about which code calls which, by the compiler's own reading of the source: how deep calls
 * go (rule 11), that none calls itself by way of others (rule 8), and what of the library is used (rules 3 and 4).
 */
public final class CallsTest {
  private static final Path SOURCE = Path.of("src/main/java/OneStrokes.java");
  private static final int DEEPEST = 8;
  private static final Set<String> LIBRARY = Set.of("Math.max", "Math.min", "Math.abs", "Math.floorMod", "Math.floorDiv", "Integer.bitCount");
  private static int wrong = 0;

  private final Map<Element, Set<Element>> calls = new LinkedHashMap<>();
  private final Map<Element, Integer> depths = new HashMap<>();
  private final Set<String> library = new TreeSet<>(), casts = new TreeSet<>();
  private int loopsWithoutCounter = 0;

  public static void main(String[] args) throws IOException {
    CallsTest found = new CallsTest();
    found.read();
    int deepest = 0;
    for (Element method : found.calls.keySet()) {
      int depth = found.depthOf(method, new LinkedHashSet<>());
      if (method.getModifiers().contains(Modifier.PUBLIC)) {
        holds(depth <= DEEPEST, method + " goes " + depth + " deep");
        deepest = Math.max(deepest, depth);
      }
    }
    holds(deepest > 1, "no calls were found");
    for (String name : found.library) holds(LIBRARY.contains(name), "of the library: " + name);
    holds(found.casts.stream().allMatch(Set.of("int", "long")::contains), "casts to " + found.casts);
    holds(found.loopsWithoutCounter == 0, "loops without a counter: " + found.loopsWithoutCounter);
    System.out.println(found.calls.size() + " methods, calls go " + deepest + " deep, of the library " + found.library);
    if (wrong != 0) System.exit(1);
  }

  private static void holds(boolean so, String what) {
    if (!so) {
      wrong++;
      System.out.println(what);
    }
  }

  private void read() throws IOException {
    JavaCompiler compiler = ToolProvider.getSystemJavaCompiler();
    try (StandardJavaFileManager files = compiler.getStandardFileManager(null, null, null)) {
      JavacTask task = (JavacTask) compiler.getTask(null, files, null, List.of("-proc:none"), null, files.getJavaFileObjects(SOURCE));
      Iterable<? extends CompilationUnitTree> units = task.parse();
      task.analyze();
      for (CompilationUnitTree unit : units) new Reader(Trees.instance(task)).scan(unit, null);
    }
  }

  /** How many calls stand open at once, with this one; one that calls itself is told, and ends there. */
  private int depthOf(Element method, Set<Element> open) {
    if (depths.containsKey(method)) return depths.get(method);
    if (!open.add(method)) {
      holds(false, "calls itself: " + open);
      return 1;
    }
    int deepest = 0;
    for (Element called : calls.getOrDefault(method, Set.of())) deepest = Math.max(deepest, depthOf(called, open));
    open.remove(method);
    depths.put(method, deepest + 1);
    return deepest + 1;
  }

  private final class Reader extends TreePathScanner<Void, Void> {
    private final Trees trees;
    private Element inside = null;

    Reader(Trees trees) { this.trees = trees; }

    @Override public Void visitMethod(MethodTree node, Void none) {
      Element ahead = inside;
      inside = trees.getElement(getCurrentPath());
      calls.computeIfAbsent(inside, k -> new LinkedHashSet<>());
      super.visitMethod(node, none);
      inside = ahead;
      return null;
    }

    @Override public Void visitMethodInvocation(MethodInvocationTree node, Void none) {
      note(trees.getElement(getCurrentPath()));
      return super.visitMethodInvocation(node, none);
    }

    @Override public Void visitNewClass(NewClassTree node, Void none) {
      note(trees.getElement(getCurrentPath()));
      return super.visitNewClass(node, none);
    }

    private void note(Element called) {
      TypeElement owner = (TypeElement) called.getEnclosingElement();
      boolean isOwn = owner.getQualifiedName().toString().startsWith("OneStrokes");
      if (isOwn && inside != null) calls.get(inside).add(called);
      boolean isPlainSuper = called.getKind() == ElementKind.CONSTRUCTOR && owner.getQualifiedName().contentEquals("java.lang.Object");
      if (!isOwn && !isPlainSuper) library.add(owner.getSimpleName() + "." + called.getSimpleName());
    }

    @Override public Void visitTypeCast(TypeCastTree node, Void none) {
      casts.add(node.getType().toString());
      return super.visitTypeCast(node, none);
    }

    @Override public Void visitWhileLoop(WhileLoopTree node, Void none) {
      loopsWithoutCounter++;
      return super.visitWhileLoop(node, none);
    }

    @Override public Void visitDoWhileLoop(DoWhileLoopTree node, Void none) {
      loopsWithoutCounter++;
      return super.visitDoWhileLoop(node, none);
    }
  }
}
