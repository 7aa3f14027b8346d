import com.sun.source.tree.BinaryTree;
import com.sun.source.tree.ClassTree;
import com.sun.source.tree.CompilationUnitTree;
import com.sun.source.tree.ForLoopTree;
import com.sun.source.tree.ImportTree;
import com.sun.source.tree.MemberSelectTree;
import com.sun.source.tree.MethodInvocationTree;
import com.sun.source.tree.MethodTree;
import com.sun.source.tree.NewClassTree;
import com.sun.source.tree.ParenthesizedTree;
import com.sun.source.tree.Tree;
import com.sun.source.tree.VariableTree;
import com.sun.source.tree.WhileLoopTree;
import com.sun.source.util.JavacTask;
import com.sun.source.util.SourcePositions;
import com.sun.source.util.TreePath;
import com.sun.source.util.TreePathScanner;
import com.sun.source.util.Trees;
import java.io.IOException;
import java.nio.file.Path;
import java.util.HashMap;
import java.util.HashSet;
import java.util.List;
import java.util.Map;
import java.util.Set;
import java.util.TreeSet;
import javax.lang.model.element.Element;
import javax.lang.model.element.Modifier;
import javax.tools.JavaCompiler;
import javax.tools.StandardJavaFileManager;
import javax.tools.ToolProvider;

/** The rules of ../shared/LANGUAGE.md that can be read off the source, and the document's face. */
public final class LanguageTest extends TreePathScanner<Void, Void> {
  private static final Path SOURCE = Path.of("src/main/java/NameMaps.java");
  private static final Set<String> FACE = new TreeSet<>(List.of(
      "BAD_INDEX", "BAD_VALUE", "NOT_POSSIBLE", "FULL", "NONE", "<init>()",
      "addServer(int,int,int)", "addSite(int,int,int)", "addRouter()",
      "setSlot(int,int,int,int,int)", "emptySlot(int,int)", "register(int)", "unregister(int)",
      "setMapLife(int)", "send(int,int,int)", "pass(int)", "forget(int)", "append(int)",
      "clearText()", "faultPosition()", "run()", "undo()", "save(int)", "restore(int)",
      "server(int,int)", "site(int,int)", "slot(int,int,int)", "router(int,int)",
      "map(int,int,int)", "answer(int)", "way(int,int)", "endingNext(int)", "total(int)",
      "wouldReach(int,int,int,int)", "wouldAsk(int,int,int)", "share(int,int)"));
  private static final Set<Tree.Kind> FORBIDDEN = Set.of(
      Tree.Kind.THROW, Tree.Kind.TRY, Tree.Kind.CATCH, Tree.Kind.SYNCHRONIZED, Tree.Kind.ASSERT,
      Tree.Kind.LAMBDA_EXPRESSION, Tree.Kind.MEMBER_REFERENCE, Tree.Kind.PACKAGE);
  private static final Set<String> IMPORTS = Set.of(
      "java.util.ArrayList", "java.util.Arrays", "java.util.Iterator", "java.util.List");
  /** Of Integer, Long and Math all functions over int and long but those that end in Exact. */
  private static final Set<String> FREE_CLASSES = Set.of("Integer", "Long", "Math");
  private static final Set<String> LIBRARY = Set.of(
      "System.arraycopy", "Arrays.copyOf", "Arrays.copyOfRange", "Arrays.fill", "List.of");
  private static final Set<String> LIBRARY_CLASSES = Set.of(
      "Math", "Integer", "Long", "System", "Arrays", "List", "String", "Character", "Thread",
      "Object", "Double", "Float", "Boolean", "Byte", "Short", "Runtime");
  private static final int MOST_LINES = 60;
  private static final int MOST_PARAMETERS = 7;
  private static final int MOST_CLASSES = 12;
  private static final int MOST_FIELDS = 20;
  private static final int MOST_DEPTH = 8;

  private static final Check check = new Check();
  private final Set<String> faceFound = new TreeSet<>();
  private final Set<String> hiddenMethods = new HashSet<>();
  /** Which methods a method calls, the constructors that it calls among them. */
  private final Map<Element, Set<Element>> calls = new HashMap<>();
  private final CompilationUnitTree unit;
  private final Trees trees;
  private final SourcePositions positions;
  private int classes;

  private LanguageTest(CompilationUnitTree unit, Trees trees) {
    this.unit = unit;
    this.trees = trees;
    this.positions = trees.getSourcePositions();
  }

  public static void main(String[] args) throws IOException {
    JavaCompiler compiler = ToolProvider.getSystemJavaCompiler();
    try (StandardJavaFileManager files = compiler.getStandardFileManager(null, null, null)) {
      JavacTask task = (JavacTask) compiler.getTask(
          null, files, null, null, null, files.getJavaFileObjects(SOURCE));
      CompilationUnitTree unit = task.parse().iterator().next();
      task.analyze();
      LanguageTest test = new LanguageTest(unit, Trees.instance(task));
      test.scan(unit, null);
      test.lookAtFace();
      for (Element method : test.calls.keySet()) {
        check.dueTrue("not too deep: " + method, test.depthOf(method, 0) <= MOST_DEPTH);
      }
    }
    check.end();
  }

  /** How many calls stand open at most, from a method on; more than is allowed if it is a circle. */
  private int depthOf(Element method, int above) {
    int below = 0;
    for (Element called : calls.getOrDefault(method, Set.of())) {
      below = Math.max(below, above > MOST_DEPTH ? MOST_DEPTH : depthOf(called, above + 1));
    }
    return 1 + below;
  }

  private void noteCall(Tree tree) {
    Element called = trees.getElement(getCurrentPath());
    for (TreePath path = getCurrentPath(); path != null; path = path.getParentPath()) {
      if (path.getLeaf() instanceof MethodTree) {
        calls.computeIfAbsent(trees.getElement(path), m -> new HashSet<>()).add(called);
      }
    }
    check.dueTrue("a call of something" + at(tree), called != null);
  }

  private void lookAtFace() {
    check.dueText("the face", faceFound.toString(), FACE.toString());
    for (String member : FACE) {
      String name = member.replaceAll("\\(.*", "");
      check.dueTrue("no hidden method is called " + name, !hiddenMethods.contains(name));
    }
    check.dueTrue("few classes: " + classes, classes <= MOST_CLASSES);
  }

  @Override
  public Void scan(Tree tree, Void none) {
    if (tree != null) {
      check.dueTrue("no " + tree.getKind() + at(tree), !FORBIDDEN.contains(tree.getKind()));
    }
    return super.scan(tree, none);
  }

  @Override
  public Void visitClass(ClassTree tree, Void none) {
    classes++;
    boolean isOuter = isIn(Tree.Kind.COMPILATION_UNIT);
    Set<Modifier> flags = tree.getModifiers().getFlags();
    if (isOuter) {
      check.dueTrue("public and final", flags.equals(Set.of(Modifier.PUBLIC, Modifier.FINAL)));
    } else {
      check.dueTrue("static" + at(tree), flags.contains(Modifier.STATIC));
      check.dueTrue("not public" + at(tree), !flags.contains(Modifier.PUBLIC));
      check.dueTrue("in the outer class" + at(tree), isIn(Tree.Kind.CLASS));
    }
    int fields = 0;
    for (Tree member : tree.getMembers()) {
      check.dueTrue("no initialiser block" + at(member), member.getKind() != Tree.Kind.BLOCK);
      boolean isConstant = member instanceof VariableTree field
          && field.getModifiers().getFlags().contains(Modifier.STATIC);
      fields += member instanceof VariableTree && !isConstant ? 1 : 0;
      if (isOuter) {
        lookAtMember(member);
      }
    }
    check.dueTrue("few fields" + at(tree), fields <= MOST_FIELDS);
    return super.visitClass(tree, none);
  }

  private void lookAtMember(Tree member) {
    if (member instanceof VariableTree field) {
      lookAtFlags(member, field.getModifiers().getFlags(), field.getName().toString());
    } else if (member instanceof MethodTree method) {
      List<String> types = method.getParameters().stream().map(p -> p.getType().toString()).toList();
      String signature = method.getName() + "(" + String.join(",", types) + ")";
      lookAtFlags(member, method.getModifiers().getFlags(), signature);
    }
  }

  private void lookAtFlags(Tree member, Set<Modifier> flags, String signature) {
    if (flags.contains(Modifier.PUBLIC)) {
      faceFound.add(signature);
    } else {
      check.dueTrue("private" + at(member), flags.contains(Modifier.PRIVATE));
    }
  }

  @Override
  public Void visitVariable(VariableTree tree, Void none) {
    Set<Modifier> flags = tree.getModifiers().getFlags();
    if (flags.contains(Modifier.STATIC)) {
      check.dueTrue("final" + at(tree), flags.contains(Modifier.FINAL));
    }
    return super.visitVariable(tree, none);
  }

  @Override
  public Void visitMethod(MethodTree tree, Void none) {
    boolean isOfFace = tree.getModifiers().getFlags().contains(Modifier.PUBLIC);
    if (!isOfFace && !tree.getName().contentEquals("<init>")) {
      hiddenMethods.add(tree.getName().toString());
    }
    check.dueTrue("few parameters" + at(tree), tree.getParameters().size() <= MOST_PARAMETERS);
    long lines = unit.getLineMap().getLineNumber(positions.getEndPosition(unit, tree))
        - unit.getLineMap().getLineNumber(positions.getStartPosition(unit, tree));
    check.dueTrue("short" + at(tree), lines < MOST_LINES);
    return super.visitMethod(tree, none);
  }

  @Override
  public Void visitImport(ImportTree tree, Void none) {
    String name = tree.getQualifiedIdentifier().toString();
    check.dueTrue("of the library: " + name, IMPORTS.contains(name));
    return super.visitImport(tree, none);
  }

  @Override
  public Void visitNewClass(NewClassTree tree, Void none) {
    check.dueTrue("no class without a name" + at(tree), tree.getClassBody() == null);
    noteCall(tree);
    return super.visitNewClass(tree, none);
  }

  @Override
  public Void visitMethodInvocation(MethodInvocationTree tree, Void none) {
    noteCall(tree);
    if (tree.getMethodSelect() instanceof MemberSelectTree select
        && LIBRARY_CLASSES.contains(select.getExpression().toString())) {
      boolean isFree = FREE_CLASSES.contains(select.getExpression().toString())
          && !select.getIdentifier().toString().endsWith("Exact");
      check.dueTrue("of the library: " + select + at(tree),
          isFree || LIBRARY.contains(select.toString()));
    }
    return super.visitMethodInvocation(tree, none);
  }

  @Override
  public Void visitForLoop(ForLoopTree tree, Void none) {
    check.dueTrue("a bound" + at(tree), hasBound(tree.getCondition()));
    return super.visitForLoop(tree, none);
  }

  @Override
  public Void visitWhileLoop(WhileLoopTree tree, Void none) {
    check.dueTrue("a bound" + at(tree), hasBound(tree.getCondition()));
    return super.visitWhileLoop(tree, none);
  }

  /** Some part of the condition that must hold compares a counter, or looks for a chain's end. */
  private static boolean hasBound(Tree condition) {
    if (condition instanceof ParenthesizedTree inner) {
      return hasBound(inner.getExpression());
    }
    if (condition instanceof BinaryTree both && both.getKind() == Tree.Kind.CONDITIONAL_AND) {
      return hasBound(both.getLeftOperand()) || hasBound(both.getRightOperand());
    }
    if (condition instanceof BinaryTree chain && chain.getKind() == Tree.Kind.NOT_EQUAL_TO) {
      return chain.getRightOperand().getKind() == Tree.Kind.NULL_LITERAL;
    }
    return condition != null && Set.of(Tree.Kind.LESS_THAN, Tree.Kind.GREATER_THAN,
        Tree.Kind.GREATER_THAN_EQUAL, Tree.Kind.LESS_THAN_EQUAL).contains(condition.getKind());
  }

  private boolean isIn(Tree.Kind kind) {
    TreePath parent = getCurrentPath().getParentPath();
    return parent != null && parent.getLeaf().getKind() == kind;
  }

  private String at(Tree tree) {
    long start = positions.getStartPosition(unit, tree);
    return start < 0 ? "" : ", line " + unit.getLineMap().getLineNumber(start);
  }
}
