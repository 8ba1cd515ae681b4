import com.sun.source.tree.AssertTree;
import com.sun.source.tree.BinaryTree;
import com.sun.source.tree.BlockTree;
import com.sun.source.tree.ClassTree;
import com.sun.source.tree.CompilationUnitTree;
import com.sun.source.tree.CompoundAssignmentTree;
import com.sun.source.tree.ExpressionTree;
import com.sun.source.tree.ImportTree;
import com.sun.source.tree.LambdaExpressionTree;
import com.sun.source.tree.MemberReferenceTree;
import com.sun.source.tree.MethodInvocationTree;
import com.sun.source.tree.MethodTree;
import com.sun.source.tree.NewClassTree;
import com.sun.source.tree.SynchronizedTree;
import com.sun.source.tree.ThrowTree;
import com.sun.source.tree.Tree;
import com.sun.source.tree.TryTree;
import com.sun.source.tree.TypeCastTree;
import com.sun.source.tree.VariableTree;
import com.sun.source.tree.WhileLoopTree;
import com.sun.source.util.JavacTask;
import com.sun.source.util.TreePath;
import com.sun.source.util.TreePathScanner;
import com.sun.source.util.Trees;
import java.io.IOException;
import java.net.URI;
import java.util.ArrayList;
import java.util.HashMap;
import java.util.LinkedHashMap;
import java.util.LinkedHashSet;
import java.util.List;
import java.util.Map;
import java.util.Set;
import javax.lang.model.element.Element;
import javax.lang.model.element.Modifier;
import javax.lang.model.type.TypeKind;
import javax.lang.model.type.TypeMirror;
import javax.tools.JavaFileObject;
import javax.tools.SimpleJavaFileObject;
import javax.tools.ToolProvider;

/**
 * Reads a program by the compiler's own trees, and says which rules of LANGUAGE.md it breaks. It knows the part
 * of the language that LineDealer needs; what more the rules would allow is to be added here when it is used.
 */
final class LanguageRules extends TreePathScanner<Void, Void> {
  private static final int MOST_LINES_OF_A_METHOD = 60;
  private static final int MOST_PARAMETERS = 7;
  private static final int MOST_CLASSES = 12;
  private static final int MOST_FIELDS = 20;
  private static final int DEEPEST_CALLS = 8;
  private static final Set<String> LIBRARY = Set.of("java.lang.Math.max", "java.lang.Math.min", "java.lang.Math.abs",
      "java.lang.Integer.bitCount", "java.lang.System.arraycopy", "java.util.Arrays.fill", "java.util.Arrays.copyOf",
      "java.lang.Object.<init>");
  private static final Set<String> IMPORTS = Set.of("java.util.Arrays", "java.util.ArrayList", "java.util.List");

  private final List<String> broken = new ArrayList<>();
  private final Map<Element, Set<Element>> calls = new LinkedHashMap<>();
  private final Trees trees;
  private final CompilationUnitTree unit;
  private int classes = 0;
  private Element method = null;

  private LanguageRules(Trees trees, CompilationUnitTree unit) {
    this.trees = trees;
    this.unit = unit;
  }

  static List<String> brokenBy(String source) throws IOException {
    JavaFileObject file = new SimpleJavaFileObject(URI.create("string:///LineDealer.java"), JavaFileObject.Kind.SOURCE) {
      @Override
      public CharSequence getCharContent(boolean ignored) {
        return source;
      }
    };
    List<String> errors = new ArrayList<>();
    JavacTask task = (JavacTask) ToolProvider.getSystemJavaCompiler().getTask(null, null,
        d -> errors.add("it does not compile: " + d), List.of("--release", "17"), null, List.of(file));
    CompilationUnitTree unit = task.parse().iterator().next();
    task.analyze();
    if (!errors.isEmpty()) return errors;
    LanguageRules rules = new LanguageRules(Trees.instance(task), unit);
    rules.scan(unit, null);
    rules.lookAtDepth();
    return rules.broken;
  }

  private void must(boolean holds, String rule, Tree where) {
    if (holds) return;
    long at = trees.getSourcePositions().getStartPosition(unit, where);
    broken.add("line " + unit.getLineMap().getLineNumber(at) + ", " + rule);
  }

  private TypeMirror typeOf(ExpressionTree part) {
    return trees.getTypeMirror(new TreePath(getCurrentPath(), part));
  }

  @Override
  public Void visitImport(ImportTree tree, Void p) {
    must(IMPORTS.contains(tree.getQualifiedIdentifier().toString()), "rule 4: " + tree, tree);
    return super.visitImport(tree, p);
  }

  @Override
  public Void visitClass(ClassTree tree, Void p) {
    classes++;
    must(classes <= MOST_CLASSES, "rule 11: twelve classes", tree);
    if (classes > 1) must(tree.getModifiers().getFlags().contains(Modifier.STATIC), "rule 2: a class that isn't static", tree);
    int fields = 0;
    for (Tree member : tree.getMembers()) {
      must(!(member instanceof BlockTree), "rule 5: an initialiser block", member);
      if (member instanceof VariableTree field) {
        Set<Modifier> flags = field.getModifiers().getFlags();
        must(!flags.contains(Modifier.STATIC) || flags.contains(Modifier.FINAL), "rule 5: static and not final", field);
        if (!flags.contains(Modifier.STATIC)) fields++;
      }
    }
    must(fields <= MOST_FIELDS, "rule 11: twenty fields", tree);
    return super.visitClass(tree, p);
  }

  @Override
  public Void visitMethod(MethodTree tree, Void p) {
    must(tree.getParameters().size() <= MOST_PARAMETERS, "rule 11: seven parameters", tree);
    must(lines(tree) <= MOST_LINES_OF_A_METHOD, "rule 11: sixty lines", tree);
    method = trees.getElement(getCurrentPath());
    calls.put(method, new LinkedHashSet<>());
    super.visitMethod(tree, p);
    method = null;
    return null;
  }

  private long lines(MethodTree tree) {
    long start = trees.getSourcePositions().getStartPosition(unit, tree);
    long end = trees.getSourcePositions().getEndPosition(unit, tree);
    // The constructor that the compiler adds stands nowhere.
    return end < 0 ? 0 : unit.getLineMap().getLineNumber(end) - unit.getLineMap().getLineNumber(start) + 1;
  }

  @Override
  public Void visitMethodInvocation(MethodInvocationTree tree, Void p) {
    Element called = trees.getElement(new TreePath(getCurrentPath(), tree.getMethodSelect()));
    if (isOwn(called)) {
      if (method != null) calls.get(method).add(called);
    } else {
      must(LIBRARY.contains(called.getEnclosingElement() + "." + called.getSimpleName()), "rule 4: " + tree, tree);
    }
    return super.visitMethodInvocation(tree, p);
  }

  @Override
  public Void visitNewClass(NewClassTree tree, Void p) {
    Element made = trees.getElement(getCurrentPath());
    must(isOwn(made), "rule 4: " + tree, tree);
    must(tree.getClassBody() == null, "rule 2: an anonymous class", tree);
    if (method != null) calls.get(method).add(made);
    return super.visitNewClass(tree, p);
  }

  private static boolean isOwn(Element member) {
    return (member.getEnclosingElement() + ".").startsWith("LineDealer.");
  }

  @Override
  public Void visitBinary(BinaryTree tree, Void p) {
    lookAtSides(tree, typeOf(tree.getLeftOperand()));
    return super.visitBinary(tree, p);
  }

  @Override
  public Void visitCompoundAssignment(CompoundAssignmentTree tree, Void p) {
    lookAtSides(tree, typeOf(tree.getVariable()));
    return super.visitCompoundAssignment(tree, p);
  }

  /** Rule 10 names && and || for booleans; masks and sums are for numbers, == and != for references, too. */
  private void lookAtSides(ExpressionTree tree, TypeMirror side) {
    switch (tree.getKind()) {
      case AND, OR, XOR, AND_ASSIGNMENT, OR_ASSIGNMENT, XOR_ASSIGNMENT, PLUS, PLUS_ASSIGNMENT ->
          must(side.getKind() == TypeKind.INT || side.getKind() == TypeKind.LONG, "rule 10: " + tree, tree);
      default -> { }
    }
  }

  @Override
  public Void visitWhileLoop(WhileLoopTree tree, Void p) {
    must(!tree.getCondition().toString().equals("(true)"), "rule 9: a loop without an end", tree);
    return super.visitWhileLoop(tree, p);
  }

  @Override
  public Void visitTypeCast(TypeCastTree tree, Void p) {
    must(typeOf(tree.getExpression()).getKind().isPrimitive(), "rule 6: a cast of a reference", tree);
    return super.visitTypeCast(tree, p);
  }

  @Override
  public Void visitLambdaExpression(LambdaExpressionTree tree, Void p) {
    must(false, "rule 2: a lambda", tree);
    return super.visitLambdaExpression(tree, p);
  }

  @Override
  public Void visitMemberReference(MemberReferenceTree tree, Void p) {
    must(false, "rule 2: a method reference", tree);
    return super.visitMemberReference(tree, p);
  }

  @Override
  public Void visitThrow(ThrowTree tree, Void p) {
    must(false, "rule 6: throw", tree);
    return super.visitThrow(tree, p);
  }

  @Override
  public Void visitTry(TryTree tree, Void p) {
    must(false, "rule 6: try", tree);
    return super.visitTry(tree, p);
  }

  @Override
  public Void visitSynchronized(SynchronizedTree tree, Void p) {
    must(false, "rule 6: synchronized", tree);
    return super.visitSynchronized(tree, p);
  }

  @Override
  public Void visitAssert(AssertTree tree, Void p) {
    must(false, "rule 6: assert", tree);
    return super.visitAssert(tree, p);
  }

  private void lookAtDepth() {
    for (Element from : calls.keySet()) {
      int depth = depthOf(from, new HashMap<>());
      if (depth > DEEPEST_CALLS) broken.add("rule 11: calls go " + depth + " deep from " + from);
    }
  }

  /** How many calls stand open at once; one that is open already is recursion, which rule 8 is for. */
  private int depthOf(Element from, Map<Element, Boolean> open) {
    open.put(from, true);
    int deepest = 0;
    for (Element to : calls.getOrDefault(from, Set.of())) {
      if (!open.containsKey(to)) deepest = Math.max(deepest, depthOf(to, open));
    }
    open.remove(from);
    return deepest + 1;
  }
}
