import com.sun.source.tree.AnnotationTree;
import com.sun.source.tree.AssertTree;
import com.sun.source.tree.BinaryTree;
import com.sun.source.tree.BindingPatternTree;
import com.sun.source.tree.BlockTree;
import com.sun.source.tree.ClassTree;
import com.sun.source.tree.CompilationUnitTree;
import com.sun.source.tree.CompoundAssignmentTree;
import com.sun.source.tree.DoWhileLoopTree;
import com.sun.source.tree.ForLoopTree;
import com.sun.source.tree.IdentifierTree;
import com.sun.source.tree.ImportTree;
import com.sun.source.tree.LambdaExpressionTree;
import com.sun.source.tree.LiteralTree;
import com.sun.source.tree.MemberReferenceTree;
import com.sun.source.tree.MethodInvocationTree;
import com.sun.source.tree.MethodTree;
import com.sun.source.tree.NewArrayTree;
import com.sun.source.tree.NewClassTree;
import com.sun.source.tree.PackageTree;
import com.sun.source.tree.SynchronizedTree;
import com.sun.source.tree.ThrowTree;
import com.sun.source.tree.Tree;
import com.sun.source.tree.TryTree;
import com.sun.source.tree.TypeCastTree;
import com.sun.source.tree.VariableTree;
import com.sun.source.tree.WhileLoopTree;
import com.sun.source.util.JavacTask;
import com.sun.source.util.TreePath;
import com.sun.source.util.TreePathScanner;
import com.sun.source.util.Trees;
import java.io.IOException;
import java.net.URI;
import java.util.HashMap;
import java.util.HashSet;
import java.util.LinkedHashSet;
import java.util.List;
import java.util.Map;
import java.util.Set;
import java.util.TreeSet;
import javax.lang.model.element.Element;
import javax.lang.model.element.ElementKind;
import javax.lang.model.element.Modifier;
import javax.lang.model.element.TypeElement;
import javax.lang.model.type.ArrayType;
import javax.lang.model.type.TypeKind;
import javax.lang.model.type.TypeMirror;
import javax.tools.JavaCompiler;
import javax.tools.JavaFileObject;
import javax.tools.SimpleJavaFileObject;
import javax.tools.ToolProvider;

/**
 * Reads a program as javac does and tells what in it breaks a rule of LANGUAGE.md, each with the rule's
 * number. Where PostFrame needs less than a rule leaves, less is let through here.
 */
final class Rules extends TreePathScanner<Void, Void> {
  private static final Set<String> LIBRARY = Set.of("String.length", "String.charAt", "System.arraycopy", "Math.min", "Math.max",
      "Integer.bitCount");
  private static final Set<Tree.Kind> JOINS = Set.of(Tree.Kind.PLUS, Tree.Kind.PLUS_ASSIGNMENT);
  private static final int LINES_MOST = 60;
  private static final int PARAMETERS_MOST = 7;
  private static final int CLASSES_MOST = 12;
  private static final int FIELDS_MOST = 20;
  private static final int DEPTH_MOST = 8;

  private final Set<String> breaches = new TreeSet<>();
  private final Trees trees;
  private final CompilationUnitTree unit;
  /** Which methods call which, and which of them carry a depth. */
  private final Map<String, Set<String>> calls = new HashMap<>();
  private final Set<String> guarded = new HashSet<>();
  private final Set<String> faces = new HashSet<>();
  private final Set<String> hidden = new HashSet<>();
  private String method = "";
  private int classes;

  private Rules(Trees trees, CompilationUnitTree unit) {
    this.trees = trees;
    this.unit = unit;
  }

  private static final class Source extends SimpleJavaFileObject {
    private final String text;

    Source(String text) {
      super(URI.create("string:///PostFrame.java"), JavaFileObject.Kind.SOURCE);
      this.text = text;
    }

    @Override
    public CharSequence getCharContent(boolean ignored) {
      return text;
    }
  }

  /** The text of a class PostFrame that javac takes. */
  static Set<String> brokenBy(String text) throws IOException {
    JavaCompiler compiler = ToolProvider.getSystemJavaCompiler();
    JavacTask task = (JavacTask) compiler.getTask(null, null, d -> { }, List.of("--release", "17", "-proc:none"), null, List.of(new Source(text)));
    Iterable<? extends CompilationUnitTree> units = task.parse();
    task.analyze();
    Set<String> all = new TreeSet<>();
    for (CompilationUnitTree unit : units) {
      Rules rules = new Rules(Trees.instance(task), unit);
      rules.signs(text);
      rules.scan(unit, null);
      rules.whole();
      all.addAll(rules.breaches);
    }
    return all;
  }

  private void no(int rule, String what, boolean seen) {
    if (seen) breaches.add("rule " + rule + ": " + what + (method.isEmpty() ? "" : " in " + method));
  }

  private Element element() {
    return trees.getElement(getCurrentPath());
  }

  private TypeMirror typeOf(Tree tree) {
    return trees.getTypeMirror(new TreePath(getCurrentPath(), tree));
  }

  // ---------------------------------------------------------------- the whole file

  private void signs(String text) {
    for (char c : text.toCharArray()) no(4, "a sign beyond 126", c > 126);
  }

  private void whole() {
    method = "";
    no(11, classes + " classes", classes > CLASSES_MOST);
    for (String name : hidden) no(1, "private " + name, faces.contains(name));
    for (String name : calls.keySet()) {
      boolean again = reaches(name, name, new HashSet<>());
      no(8, name + " calls itself without a depth that is looked at", again && !guarded.contains(name));
      int deep = depth(name, new LinkedHashSet<>());
      no(11, name + " calls " + deep + " deep", deep > DEPTH_MOST);
    }
  }

  private boolean reaches(String from, String to, Set<String> seen) {
    for (String next : calls.getOrDefault(from, Set.of())) {
      if (next.equals(to) || seen.add(next) && reaches(next, to, seen)) return true;
    }
    return false;
  }

  private int depth(String from, Set<String> open) {
    if (!open.add(from)) return 0;
    int most = 0;
    for (String next : calls.getOrDefault(from, Set.of())) {
      if (!open.contains(next)) most = Math.max(most, depth(next, open));
    }
    open.remove(from);
    return most + 1;
  }

  @Override
  public Void visitPackage(PackageTree tree, Void v) {
    no(1, "a package", true);
    return super.visitPackage(tree, v);
  }

  @Override
  public Void visitImport(ImportTree tree, Void v) {
    no(4, "an import", true);
    return null;
  }

  // ---------------------------------------------------------------- classes and members

  @Override
  public Void visitClass(ClassTree tree, Void v) {
    classes++;
    Set<Modifier> modifiers = tree.getModifiers().getFlags();
    Tree around = getCurrentPath().getParentPath().getLeaf();
    boolean top = around.getKind() == Tree.Kind.COMPILATION_UNIT;
    boolean nested = around instanceof ClassTree;
    no(2, "a class that is no plain one", tree.getKind() != Tree.Kind.CLASS || !top && !nested);
    no(1, "the class is not public and final", top && !modifiers.containsAll(Set.of(Modifier.PUBLIC, Modifier.FINAL)));
    no(2, tree.getSimpleName() + " that is not static", nested && !modifiers.contains(Modifier.STATIC));
    no(1, tree.getSimpleName() + " that can be seen", nested && (modifiers.contains(Modifier.PUBLIC) || modifiers.contains(Modifier.PROTECTED)));
    no(10, tree.getSimpleName() + " that rests on another", tree.getExtendsClause() != null || !tree.getImplementsClause().isEmpty());
    int fields = 0;
    for (Tree member : tree.getMembers()) {
      if (member instanceof VariableTree field && !field.getModifiers().getFlags().contains(Modifier.STATIC)) fields++;
      no(5, "a block outside of a method", member instanceof BlockTree);
      if (top) topMember(member);
    }
    no(11, tree.getSimpleName() + " with " + fields + " fields", fields > FIELDS_MOST);
    return super.visitClass(tree, v);
  }

  private void topMember(Tree member) {
    if (member instanceof VariableTree field) {
      boolean told = field.getName().contentEquals("NONE");
      no(1, "field " + field.getName(), !told && !field.getModifiers().getFlags().contains(Modifier.PRIVATE));
    } else if (member instanceof MethodTree m) {
      boolean open = m.getModifiers().getFlags().contains(Modifier.PUBLIC);
      no(1, m.getName() + " that is neither public nor private", !open && !m.getModifiers().getFlags().contains(Modifier.PRIVATE));
      if (open) faces.add(m.getName().toString());
    }
  }

  @Override
  public Void visitVariable(VariableTree tree, Void v) {
    Element element = element();
    if (element != null && element.getKind() == ElementKind.FIELD && element.getModifiers().contains(Modifier.STATIC)) {
      boolean plain = element.asType().getKind().isPrimitive() && tree.getInitializer() != null;
      no(5, "static " + tree.getName(), !element.getModifiers().contains(Modifier.FINAL) || !plain);
    }
    if (element != null) no(3, "a type: " + element.asType(), !known(element.asType(), 0));
    return super.visitVariable(tree, v);
  }

  private static boolean known(TypeMirror type, int arrays) {
    if (type.getKind() == TypeKind.ARRAY) return arrays < 2 && known(((ArrayType) type).getComponentType(), arrays + 1);
    if (type.getKind().isPrimitive()) return type.getKind() != TypeKind.FLOAT && type.getKind() != TypeKind.DOUBLE;
    String name = type.toString();
    return arrays < 2 && (name.equals("java.lang.String") || name.startsWith("PostFrame"));
  }

  @Override
  public Void visitMethod(MethodTree tree, Void v) {
    String before = method;
    method = nameOf(element());
    calls.computeIfAbsent(method, m -> new LinkedHashSet<>());
    boolean constructor = element().getKind() == ElementKind.CONSTRUCTOR;
    if (!constructor && tree.getModifiers().getFlags().contains(Modifier.PRIVATE)) hidden.add(tree.getName().toString());
    boolean carries = tree.getParameters().stream().anyMatch(p -> p.getName().contentEquals("depth"));
    if (carries && tree.getModifiers().getFlags().contains(Modifier.PRIVATE)) guarded.add(method);
    no(11, tree.getParameters().size() + " parameters", tree.getParameters().size() > PARAMETERS_MOST);
    no(6, "throws", !tree.getThrows().isEmpty());
    no(6, "a method that each object has", Set.of("equals", "hashCode", "toString").contains(tree.getName().toString()));
    no(2, "a type of its own", !tree.getTypeParameters().isEmpty());
    long from = unit.getLineMap().getLineNumber(trees.getSourcePositions().getStartPosition(unit, tree));
    long end = trees.getSourcePositions().getEndPosition(unit, tree);
    long to = end < 0 ? from : unit.getLineMap().getLineNumber(end);
    no(11, (to - from + 1) + " lines", to - from + 1 > LINES_MOST);
    super.visitMethod(tree, v);
    method = before;
    return null;
  }

  private static String nameOf(Element element) {
    return element.getEnclosingElement().getSimpleName() + "." + element.getSimpleName();
  }

  // ---------------------------------------------------------------- what stands in methods

  @Override
  public Void visitMethodInvocation(MethodInvocationTree tree, Void v) {
    called(element());
    return super.visitMethodInvocation(tree, v);
  }

  private void called(Element element) {
    if (element == null || !(element.getEnclosingElement() instanceof TypeElement type)) {
      no(4, "a call of what is not known", true);
      return;
    }
    if (type.getQualifiedName().toString().startsWith("java.")) {
      boolean born = element.getKind() == ElementKind.CONSTRUCTOR && type.getSimpleName().contentEquals("Object");
      no(4, nameOf(element), !born && !LIBRARY.contains(nameOf(element)));
      return;
    }
    calls.computeIfAbsent(method, m -> new LinkedHashSet<>()).add(nameOf(element));
  }

  /** Objects are made with the object, and one RULE by rule(). */
  private void made() {
    boolean field = method.isEmpty();
    no(12, "an object is made", !field && !method.endsWith(".<init>") && !method.equals("PostFrame.rule"));
  }

  @Override
  public Void visitNewClass(NewClassTree tree, Void v) {
    made();
    called(element());
    return super.visitNewClass(tree, v);
  }

  @Override
  public Void visitNewArray(NewArrayTree tree, Void v) {
    made();
    return super.visitNewArray(tree, v);
  }

  @Override
  public Void visitIdentifier(IdentifierTree tree, Void v) {
    no(12, "this is handed on", tree.getName().contentEquals("this") && getCurrentPath().getParentPath().getLeaf() instanceof MethodInvocationTree);
    return super.visitIdentifier(tree, v);
  }

  @Override
  public Void visitLiteral(LiteralTree tree, Void v) {
    if (tree.getValue() instanceof String s) {
      for (char c : s.toCharArray()) no(4, "a sign " + (int) c + " in a text", c < 1 || c > 127);
    }
    return super.visitLiteral(tree, v);
  }

  @Override
  public Void visitBinary(BinaryTree tree, Void v) {
    boolean texts = text(tree.getLeftOperand()) || text(tree.getRightOperand());
    no(10, "texts joined by +", texts && JOINS.contains(tree.getKind()));
    no(6, "texts held by == or !=", texts && (tree.getKind() == Tree.Kind.EQUAL_TO || tree.getKind() == Tree.Kind.NOT_EQUAL_TO));
    return super.visitBinary(tree, v);
  }

  @Override
  public Void visitCompoundAssignment(CompoundAssignmentTree tree, Void v) {
    no(10, "texts joined by +=", text(tree.getVariable()) && JOINS.contains(tree.getKind()));
    return super.visitCompoundAssignment(tree, v);
  }

  private boolean text(Tree tree) {
    TypeMirror type = typeOf(tree);
    return type != null && type.toString().equals("java.lang.String");
  }

  @Override
  public Void visitForLoop(ForLoopTree tree, Void v) {
    no(9, "a loop without an end that can be seen", tree.getCondition() == null || tree.getUpdate().isEmpty());
    return super.visitForLoop(tree, v);
  }

  @Override
  public Void visitWhileLoop(WhileLoopTree tree, Void v) {
    no(9, "a while without a counter", true);
    return super.visitWhileLoop(tree, v);
  }

  @Override
  public Void visitDoWhileLoop(DoWhileLoopTree tree, Void v) {
    no(9, "a do without a counter", true);
    return super.visitDoWhileLoop(tree, v);
  }

  @Override
  public Void visitThrow(ThrowTree tree, Void v) {
    no(6, "throw", true);
    return super.visitThrow(tree, v);
  }

  @Override
  public Void visitTry(TryTree tree, Void v) {
    no(6, "try", true);
    return super.visitTry(tree, v);
  }

  @Override
  public Void visitSynchronized(SynchronizedTree tree, Void v) {
    no(6, "synchronized", true);
    return super.visitSynchronized(tree, v);
  }

  @Override
  public Void visitAssert(AssertTree tree, Void v) {
    no(6, "assert", true);
    return super.visitAssert(tree, v);
  }

  @Override
  public Void visitBindingPattern(BindingPatternTree tree, Void v) {
    no(6, "a pattern", true);
    return super.visitBindingPattern(tree, v);
  }

  @Override
  public Void visitTypeCast(TypeCastTree tree, Void v) {
    TypeMirror type = typeOf(tree.getType());
    no(6, "a cast to " + type, type == null || !type.getKind().isPrimitive());
    return super.visitTypeCast(tree, v);
  }

  @Override
  public Void visitLambdaExpression(LambdaExpressionTree tree, Void v) {
    no(2, "a lambda", true);
    return super.visitLambdaExpression(tree, v);
  }

  @Override
  public Void visitMemberReference(MemberReferenceTree tree, Void v) {
    no(2, "a method reference", true);
    return super.visitMemberReference(tree, v);
  }

  @Override
  public Void visitAnnotation(AnnotationTree tree, Void v) {
    no(4, "an annotation", true);
    return super.visitAnnotation(tree, v);
  }
}
