import com.sun.source.tree.ClassTree;
import com.sun.source.tree.CompilationUnitTree;
import com.sun.source.tree.MethodInvocationTree;
import com.sun.source.tree.MethodTree;
import com.sun.source.tree.NewArrayTree;
import com.sun.source.tree.NewClassTree;
import com.sun.source.tree.Tree;
import com.sun.source.tree.VariableTree;
import com.sun.source.util.JavacTask;
import com.sun.source.util.TreePath;
import com.sun.source.util.TreePathScanner;
import com.sun.source.util.Trees;
import java.io.File;
import java.io.IOException;
import java.util.HashMap;
import java.util.List;
import java.util.Map;
import java.util.Set;
import java.util.TreeMap;
import java.util.TreeSet;
import javax.lang.model.element.Element;
import javax.lang.model.element.ElementKind;
import javax.lang.model.element.ExecutableElement;
import javax.lang.model.element.Modifier;
import javax.lang.model.type.ArrayType;
import javax.lang.model.type.DeclaredType;
import javax.lang.model.type.TypeKind;
import javax.lang.model.type.TypeMirror;
import javax.tools.JavaCompiler;
import javax.tools.StandardJavaFileManager;
import javax.tools.ToolProvider;

/** What of LANGUAGE.md the compiler's tree shows: types, library, recursion, the depth of calls. */
public final class LanguageTreeTest {
  private static final Set<String> LIBRARY = Set.of(
      "java.lang.Math.max", "java.lang.Math.min", "java.lang.Integer.bitCount",
      "java.lang.System.arraycopy", "java.lang.Object.<init>");
  private static final Set<TypeKind> PRIMITIVES = Set.of(
      TypeKind.INT, TypeKind.LONG, TypeKind.BYTE, TypeKind.BOOLEAN, TypeKind.VOID);
  private static final int MOST_DEEP = 8;
  private static final int MOST_FIELDS = 20;

  private final Checks checks = new Checks("LanguageTreeTest");
  private final Map<String, Set<String>> calls = new TreeMap<>();
  private final Map<String, Integer> fields = new TreeMap<>();
  private final Map<String, Integer> deep = new HashMap<>();
  private final Set<String> open = new TreeSet<>();

  public static void main(String[] args) throws IOException {
    LanguageTreeTest test = new LanguageTreeTest();
    test.read(new File("src/main/java/SkippingKeys.java"));
    test.checkFields();
    test.checkCalls();
    test.checks.end();
  }

  private void read(File program) throws IOException {
    JavaCompiler compiler = ToolProvider.getSystemJavaCompiler();
    try (StandardJavaFileManager files = compiler.getStandardFileManager(null, null, null)) {
      JavacTask task = (JavacTask) compiler.getTask(null, files, null, List.of("-proc:none"), null,
          files.getJavaFileObjects(program));
      Iterable<? extends CompilationUnitTree> units = task.parse();
      task.analyze();
      for (CompilationUnitTree unit : units) {
        new Scanner(Trees.instance(task)).scan(unit, null);
      }
    }
  }

  private void checkFields() {
    for (Map.Entry<String, Integer> one : fields.entrySet()) {
      checks.due("twenty fields at most: " + one.getKey() + " has " + one.getValue(),
          one.getValue() <= MOST_FIELDS ? 1 : 0, 1);
    }
    checks.due("there are classes with fields", fields.size() > 1 ? 1 : 0, 1);
  }

  private void checkCalls() {
    for (String method : calls.keySet()) {
      int levels = levels(method);
      checks.due("calls eight deep at most: " + method + " has " + levels,
          levels <= MOST_DEEP ? 1 : 0, 1);
    }
    checks.due("there are methods", calls.size() > 54 ? 1 : 0, 1);
  }

  /** How many calls of the program stand open at once, at most, when a method is called. */
  private int levels(String method) {
    if (deep.containsKey(method)) {
      return deep.get(method);
    }
    if (!open.add(method)) {
      checks.same("recursion", method, "");
      return 0;
    }
    int most = 0;
    for (String called : calls.getOrDefault(method, Set.of())) {
      if (calls.containsKey(called)) {
        most = Math.max(most, levels(called));
      }
    }
    open.remove(method);
    deep.put(method, most + 1);
    return most + 1;
  }

  private static String named(Element method) {
    return method.getEnclosingElement() + "." + method;
  }

  /** Goes through the whole program, once. */
  private final class Scanner extends TreePathScanner<Void, Void> {
    private final Trees trees;

    private Scanner(Trees trees) {
      this.trees = trees;
    }

    @Override
    public Void visitClass(ClassTree node, Void none) {
      Element type = trees.getElement(getCurrentPath());
      boolean inside = type.getEnclosingElement().getKind() != ElementKind.PACKAGE;
      checks.due(type + " is final", type.getModifiers().contains(Modifier.FINAL) ? 1 : 0, 1);
      checks.due(type + " inside is static and not open",
          !inside || type.getModifiers().contains(Modifier.STATIC)
              && !type.getModifiers().contains(Modifier.PUBLIC) ? 1 : 0, 1);
      return super.visitClass(node, none);
    }

    @Override
    public Void visitVariable(VariableTree node, Void none) {
      Element variable = trees.getElement(getCurrentPath());
      checks.same("the type of " + node.getName(), whatIsWrong(variable.asType()), "");
      if (variable.getKind() == ElementKind.FIELD
          && !variable.getModifiers().contains(Modifier.STATIC)) {
        fields.merge(variable.getEnclosingElement().toString(), 1, Integer::sum);
      }
      return super.visitVariable(node, none);
    }

    @Override
    public Void visitMethod(MethodTree node, Void none) {
      ExecutableElement method = (ExecutableElement) trees.getElement(getCurrentPath());
      calls.putIfAbsent(named(method), new TreeSet<>());
      checks.same("what " + method + " answers", whatIsWrong(method.getReturnType()), "");
      return super.visitMethod(node, none);
    }

    @Override
    public Void visitMethodInvocation(MethodInvocationTree node, Void none) {
      called(trees.getElement(new TreePath(getCurrentPath(), node.getMethodSelect())));
      return super.visitMethodInvocation(node, none);
    }

    @Override
    public Void visitNewClass(NewClassTree node, Void none) {
      called(trees.getElement(getCurrentPath()));
      madeInConstructor("an object");
      return super.visitNewClass(node, none);
    }

    @Override
    public Void visitNewArray(NewArrayTree node, Void none) {
      if (node.getType() != null) {
        madeInConstructor("an array");
      }
      return super.visitNewArray(node, none);
    }

    /** What is made in constructors alone is made once for all calls of a run. */
    private void madeInConstructor(String what) {
      checks.same(what + " is made in a constructor",
          caller() == null ? "" : caller().getKind().toString(), "CONSTRUCTOR");
    }

    private Element caller() {
      TreePath at = getCurrentPath();
      while (at != null && at.getLeaf().getKind() != Tree.Kind.METHOD) {
        at = at.getParentPath();
      }
      return at == null ? null : trees.getElement(at);
    }

    private void called(Element method) {
      String type = method.getEnclosingElement().toString();
      if (type.equals("SkippingKeys") || type.startsWith("SkippingKeys.")) {
        calls.computeIfAbsent(named(caller()), key -> new TreeSet<>()).add(named(method));
      } else {
        String name = type + "." + method.getSimpleName();
        checks.same("the library's " + name, LIBRARY.contains(name) ? name : "not allowed", name);
      }
    }

    private String whatIsWrong(TypeMirror type) {
      TypeMirror inner = type;
      if (type.getKind() == TypeKind.ARRAY) {
        inner = ((ArrayType) type).getComponentType();
      }
      if (inner.getKind() == TypeKind.DECLARED) {
        String name = ((DeclaredType) inner).asElement().toString();
        return name.startsWith("SkippingKeys.") ? "" : name;
      }
      return PRIMITIVES.contains(inner.getKind()) ? "" : type.toString();
    }
  }
}
