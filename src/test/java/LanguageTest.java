import com.sun.source.tree.*;
import com.sun.source.util.JavacTask;
import com.sun.source.util.TreePath;
import com.sun.source.util.TreePathScanner;
import com.sun.source.util.Trees;
import java.io.IOException;
import java.io.Writer;
import java.nio.file.Path;
import java.util.HashMap;
import java.util.HashSet;
import java.util.List;
import java.util.Map;
import java.util.Set;
import java.util.TreeMap;
import java.util.TreeSet;
import javax.lang.model.element.Element;
import javax.lang.model.element.ElementKind;
import javax.lang.model.element.ExecutableElement;
import javax.lang.model.element.Modifier;
import javax.lang.model.element.TypeElement;
import javax.lang.model.type.TypeKind;
import javax.tools.JavaCompiler;
import javax.tools.StandardJavaFileManager;
import javax.tools.ToolProvider;

/** The public face of the document, and what can be seen of LANGUAGE.md in the source. */
public final class LanguageTest {
  private static final Path SOURCE = Path.of("src/main/java/WheelCity.java");
  private static final int MOST_LINES = 60, MOST_PARAMETERS = 7, MOST_CLASSES = 12, MOST_FIELDS = 20, MOST_DEEP = 8;

  private static final String FACE = "feed(long,int) plain() place(int,int,int) way(int,int,int,int,int) placeOf(int,int)"
      + " wayOf(int,int) set(int,int) rain(int) city(int,int,int,int) cityOf(int) may(int) does(int) stuck() best(int,int)"
      + " last() surest(int,int) light(int) far(int,int) meet(int) party(int) gate(int,int) round(int,int) rule(int,int)"
      + " ruleOf(int,int) next(int) follow(int,int) prove(int) row(int,int) alterRow(int,int,int) judge()"
      + " sheet(int,int,int) put(int,int,int) item(int,int,int) shelf(int,int,int) taken(int,int) act(int,int,int)"
      + " trace(int) many(int) keep() again()";

  /** What of the library may be called. */
  private static final Set<String> LIBRARY = Set.of("java.lang.String.length", "java.lang.String.charAt",
      "java.lang.String.isEmpty", "java.lang.String.equals", "java.lang.Math.min", "java.lang.Math.max",
      "java.lang.Math.abs", "java.lang.System.arraycopy", "java.util.Arrays.fill", "java.util.Arrays.copyOf",
      "Array.clone", "java.lang.Object.<init>");

  private static final Set<Tree.Kind> FORBIDDEN = Set.of(Tree.Kind.THROW, Tree.Kind.TRY, Tree.Kind.CATCH,
      Tree.Kind.SYNCHRONIZED, Tree.Kind.ASSERT, Tree.Kind.LAMBDA_EXPRESSION, Tree.Kind.MEMBER_REFERENCE);

  private static final Set<Tree.Kind> STEPS = Set.of(Tree.Kind.PREFIX_INCREMENT, Tree.Kind.PREFIX_DECREMENT,
      Tree.Kind.POSTFIX_INCREMENT, Tree.Kind.POSTFIX_DECREMENT);

  private static final Set<String> NEVER_COMPARED = Set.of("java.lang.String", "java.lang.Integer");

  /** The one method that makes objects. */
  private static final String MAKER = "newRule";

  private int wrong = 0;
  private final Set<String> publicNames = new HashSet<>();
  private final Set<String> face = new TreeSet<>();
  private final Map<Element, Set<Element>> calls = new HashMap<>();
  // Calls by super alone: no overriding method takes part in these.
  private final Map<Element, Set<Element>> superCalls = new HashMap<>();
  private int classes = 0;

  private void wrong(String what) {
    wrong++;
    System.out.println(what);
  }

  private final class Scanner extends TreePathScanner<Void, Void> {
    private final Trees trees;
    private final CompilationUnitTree unit;
    private Element method;

    Scanner(Trees trees, CompilationUnitTree unit) {
      this.trees = trees;
      this.unit = unit;
    }

    private Element element(Tree tree) {
      return trees.getElement(new TreePath(getCurrentPath(), tree));
    }

    private long line(long position) {
      return unit.getLineMap().getLineNumber(position);
    }

    @Override
    public Void scan(Tree tree, Void none) {
      if (tree != null && FORBIDDEN.contains(tree.getKind())) {
        wrong("rules 2 and 6: " + tree.getKind() + " at line " + line(trees.getSourcePositions().getStartPosition(unit, tree)));
      }
      return super.scan(tree, none);
    }

    @Override
    public Void visitClass(ClassTree tree, Void none) {
      classes++;
      TypeElement type = (TypeElement) trees.getElement(getCurrentPath());
      boolean inside = type.getEnclosingElement().getKind() == ElementKind.CLASS;
      if (tree.getSimpleName().length() == 0) wrong("rule 2: an anonymous class");
      if (inside && !type.getModifiers().contains(Modifier.STATIC)) wrong("rule 2: not static: " + type);
      if (inside && type.getModifiers().contains(Modifier.PUBLIC)) wrong("rule 1: public: " + type);
      if (!inside && !type.getModifiers().containsAll(List.of(Modifier.PUBLIC, Modifier.FINAL))) wrong("rule 1: " + type);
      int fields = 0;
      for (Tree member : tree.getMembers()) {
        if (member instanceof VariableTree) fields += fieldIsCounted((VariableTree) member, inside) ? 1 : 0;
        if (member instanceof BlockTree) wrong("rule 5: a block of initialisers in " + type);
      }
      if (fields > MOST_FIELDS) wrong("rule 11: " + fields + " fields in " + type);
      return super.visitClass(tree, none);
    }

    private boolean fieldIsCounted(VariableTree field, boolean inside) {
      Set<Modifier> modifiers = field.getModifiers().getFlags();
      boolean isStatic = modifiers.contains(Modifier.STATIC);
      if (isStatic && !modifiers.contains(Modifier.FINAL)) wrong("rule 5: static, not final: " + field.getName());
      boolean constant = Set.of("BAD", "FULL", "NONE", "STATE").contains(field.getName().toString());
      if (!inside && constant != modifiers.contains(Modifier.PUBLIC)) wrong("rule 1: " + field.getName());
      if (!inside && !constant && !modifiers.contains(Modifier.PRIVATE)) wrong("rule 1: " + field.getName());
      return !isStatic;
    }

    @Override
    public Void visitMethod(MethodTree tree, Void none) {
      ExecutableElement it = (ExecutableElement) trees.getElement(getCurrentPath());
      String name = it.getEnclosingElement() + "." + it;
      long first = trees.getSourcePositions().getStartPosition(unit, tree);
      long end = trees.getSourcePositions().getEndPosition(unit, tree);
      if (end > first && line(end) - line(first) >= MOST_LINES) wrong("rule 11: long: " + name);
      if (it.getParameters().size() > MOST_PARAMETERS) wrong("rule 11: parameters: " + name);
      boolean outer = it.getEnclosingElement().getSimpleName().contentEquals("WheelCity");
      boolean isPublic = it.getModifiers().contains(Modifier.PUBLIC);
      if (outer && isPublic && it.getKind() == ElementKind.METHOD) {
        face.add(it.toString());
        if (it.getReturnType().getKind() != TypeKind.INT) wrong("rule 1: not an int: " + name);
      }
      if (outer && !isPublic && !it.getModifiers().contains(Modifier.PRIVATE)) wrong("rule 1: visible: " + name);
      if (!(outer && isPublic) && publicNames.contains(it.getSimpleName().toString())) wrong("rule 1: the name of " + name);
      Element around = method;
      method = it;
      calls.putIfAbsent(it, new HashSet<>());
      superCalls.putIfAbsent(it, new HashSet<>());
      super.visitMethod(tree, none);
      method = around;
      return null;
    }

    private void called(Tree what, Element callee) {
      String owner = callee.getEnclosingElement().toString();
      if (owner.startsWith("WheelCity")) {
        if (method == null) return;
        boolean bySuper = what.toString().startsWith("super");
        (bySuper ? superCalls : calls).get(method).add(callee);
        return;
      }
      String name = owner + "." + callee.getSimpleName();
      if (!LIBRARY.contains(name)) wrong("rule 4: " + name + " in " + what);
    }

    @Override
    public Void visitMethodInvocation(MethodInvocationTree tree, Void none) {
      called(tree, element(tree.getMethodSelect()));
      return super.visitMethodInvocation(tree, none);
    }

    @Override
    public Void visitNewClass(NewClassTree tree, Void none) {
      called(tree, trees.getElement(getCurrentPath()));
      made(tree);
      return super.visitNewClass(tree, none);
    }

    @Override
    public Void visitNewArray(NewArrayTree tree, Void none) {
      made(tree);
      return super.visitNewArray(tree, none);
    }

    /** All calls of a run share one room: but for the rules, things are made with the object itself. */
    private void made(Tree tree) {
      boolean behind = method != null && method.getKind() == ElementKind.METHOD;
      if (behind && !method.getSimpleName().contentEquals(MAKER)) wrong("rule 12: made in " + method + ": " + tree);
    }

    private String typeOf(Tree tree) {
      return String.valueOf(trees.getTypeMirror(new TreePath(getCurrentPath(), tree)));
    }

    @Override
    public Void visitBinary(BinaryTree tree, Void none) {
      String type = trees.getTypeMirror(getCurrentPath()).toString();
      if (type.equals("java.lang.String")) wrong("rule 10: texts joined by +: " + tree);
      boolean compares = tree.getKind() == Tree.Kind.EQUAL_TO || tree.getKind() == Tree.Kind.NOT_EQUAL_TO;
      if (compares && NEVER_COMPARED.contains(typeOf(tree.getLeftOperand()))) wrong("rule 6: " + tree);
      return super.visitBinary(tree, none);
    }

    @Override
    public Void visitPrimitiveType(PrimitiveTypeTree tree, Void none) {
      TypeKind kind = tree.getPrimitiveTypeKind();
      if (kind == TypeKind.DOUBLE || kind == TypeKind.FLOAT) wrong("no promise asks for a " + kind);
      return super.visitPrimitiveType(tree, none);
    }

    private void changed(ExpressionTree target) {
      if (!(target instanceof ArrayAccessTree)) return;
      Element row = element(((ArrayAccessTree) target).getExpression());
      if (row != null && row.getModifiers().contains(Modifier.STATIC)) wrong("rule 5: a static row is changed: " + target);
    }

    @Override
    public Void visitAssignment(AssignmentTree tree, Void none) {
      changed(tree.getVariable());
      return super.visitAssignment(tree, none);
    }

    @Override
    public Void visitCompoundAssignment(CompoundAssignmentTree tree, Void none) {
      changed(tree.getVariable());
      return super.visitCompoundAssignment(tree, none);
    }

    @Override
    public Void visitUnary(UnaryTree tree, Void none) {
      if (STEPS.contains(tree.getKind())) changed(tree.getExpression());
      return super.visitUnary(tree, none);
    }

    private void loops(Tree loop, ExpressionTree condition) {
      String asked = condition == null ? "" : condition.toString();
      if (asked.isEmpty() || asked.equals("true") || asked.equals("(true)")) wrong("rule 9: no end is seen: " + loop);
    }

    @Override
    public Void visitForLoop(ForLoopTree tree, Void none) {
      loops(tree, tree.getCondition());
      return super.visitForLoop(tree, none);
    }

    @Override
    public Void visitWhileLoop(WhileLoopTree tree, Void none) {
      loops(tree, tree.getCondition());
      return super.visitWhileLoop(tree, none);
    }

    @Override
    public Void visitDoWhileLoop(DoWhileLoopTree tree, Void none) {
      loops(tree, tree.getCondition());
      return super.visitDoWhileLoop(tree, none);
    }

    @Override
    public Void visitImport(ImportTree tree, Void none) {
      if (!tree.getQualifiedIdentifier().toString().equals("java.util.Arrays")) wrong("rule 4: " + tree);
      return null;
    }
  }

  /** A call of a method is one of each method that overrides it, too, in what the caller's own kind can be. */
  private void addOverriders(JavacTask task) {
    for (Map.Entry<Element, Set<Element>> entry : calls.entrySet()) {
      for (Element callee : List.copyOf(entry.getValue())) {
        for (Element other : calls.keySet()) {
          if (mayRun(task, entry.getKey(), (ExecutableElement) callee, (ExecutableElement) other)) entry.getValue().add(other);
        }
      }
      entry.getValue().addAll(superCalls.get(entry.getKey()));
    }
  }

  private static boolean mayRun(JavacTask task, Element caller, ExecutableElement callee, ExecutableElement other) {
    TypeElement type = (TypeElement) other.getEnclosingElement();
    if (!task.getElements().overrides(other, callee, type)) return false;
    TypeElement callers = (TypeElement) caller.getEnclosingElement();
    boolean sameFamily = task.getTypes().isSubtype(callers.asType(), callee.getEnclosingElement().asType());
    return !sameFamily || task.getTypes().isSubtype(type.asType(), callers.asType());
  }

  private boolean reaches(Element from, Element to, Set<Element> seen) {
    for (Element next : calls.getOrDefault(from, Set.of())) {
      if (next.equals(to) || seen.add(next) && reaches(next, to, seen)) return true;
    }
    return false;
  }

  /** How many methods stand open at once at the most, those that call one another in turn counted once each. */
  private int depth(Element from, Set<Element> open) {
    int deepest = 0;
    open.add(from);
    for (Element next : calls.getOrDefault(from, Set.of())) {
      if (!open.contains(next)) deepest = Math.max(deepest, depth(next, open));
    }
    open.remove(from);
    return deepest + 1;
  }

  private void lookAtCalls() {
    Map<String, Integer> deep = new TreeMap<>();
    for (Element it : calls.keySet()) {
      if (it.getModifiers().contains(Modifier.PUBLIC)) deep.put(it.toString(), depth(it, new HashSet<>()));
      boolean again = reaches(it, it, new HashSet<>());
      if (again && !it.getModifiers().contains(Modifier.PRIVATE)) wrong("rule 8: not private, calls itself: " + it);
    }
    deep.forEach((name, n) -> {
      if (n > MOST_DEEP) wrong("rule 11: " + n + " calls deep: " + name);
    });
  }

  private void lookAtSource() throws IOException {
    JavaCompiler compiler = ToolProvider.getSystemJavaCompiler();
    try (StandardJavaFileManager files = compiler.getStandardFileManager(null, null, null)) {
      JavacTask task = (JavacTask) compiler.getTask(Writer.nullWriter(), files, null, List.of("-proc:none"), null,
          files.getJavaFileObjects(SOURCE));
      Iterable<? extends CompilationUnitTree> units = task.parse();
      task.analyze();
      for (CompilationUnitTree unit : units) new Scanner(Trees.instance(task), unit).scan(unit, null);
      addOverriders(task);
    }
    if (classes > MOST_CLASSES) wrong("rule 11: " + classes + " classes");
    Set<String> due = new TreeSet<>(List.of(FACE.split(" ")));
    if (!face.equals(due)) wrong("the face is " + face);
    lookAtCalls();
  }

  public static void main(String[] args) throws IOException {
    LanguageTest test = new LanguageTest();
    for (String call : FACE.split(" ")) test.publicNames.add(call.substring(0, call.indexOf('(')));
    test.lookAtSource();
    System.out.println("language: " + (test.wrong == 0 ? "all is as the rules say" : test.wrong + " things are not"));
    if (test.wrong != 0) System.exit(1);
  }
}
