import com.sun.source.tree.AnnotationTree;
import com.sun.source.tree.AssertTree;
import com.sun.source.tree.BinaryTree;
import com.sun.source.tree.ClassTree;
import com.sun.source.tree.CompilationUnitTree;
import com.sun.source.tree.ImportTree;
import com.sun.source.tree.LambdaExpressionTree;
import com.sun.source.tree.MemberReferenceTree;
import com.sun.source.tree.MemberSelectTree;
import com.sun.source.tree.MethodInvocationTree;
import com.sun.source.tree.MethodTree;
import com.sun.source.tree.NewArrayTree;
import com.sun.source.tree.NewClassTree;
import com.sun.source.tree.SynchronizedTree;
import com.sun.source.tree.ThrowTree;
import com.sun.source.tree.Tree;
import com.sun.source.tree.TryTree;
import com.sun.source.tree.VariableTree;
import com.sun.source.util.JavacTask;
import com.sun.source.util.TreePathScanner;
import com.sun.source.util.Trees;
import java.nio.charset.StandardCharsets;
import java.nio.file.Files;
import java.nio.file.Path;
import java.util.ArrayList;
import java.util.HashMap;
import java.util.HashSet;
import java.util.List;
import java.util.Map;
import java.util.Set;
import java.util.TreeSet;
import javax.lang.model.element.Element;
import javax.lang.model.element.ElementKind;
import javax.lang.model.element.ExecutableElement;
import javax.lang.model.element.Modifier;
import javax.lang.model.element.TypeElement;
import javax.tools.JavaCompiler;
import javax.tools.StandardJavaFileManager;
import javax.tools.ToolProvider;

/** Looks at the source itself: the rules of LANGUAGE.md that a compiler's tree can tell. */
public final class LanguageTest extends TreePathScanner<Void, Void> {
  private static final Path SOURCE = Path.of("src/main/java/BeforeTheEnd.java");
  private static final Path DOCUMENT = Path.of("../shared/DOC.md");
  private static final Set<String> LIBRARY = Set.of("String.length", "String.charAt", "String.isEmpty", "String.equals",
      "String.indexOf", "String.substring", "String.toCharArray", "Integer.bitCount", "Math.abs", "Math.max",
      "Math.min", "Object.<init>");
  private static final int CLASSES = 12;
  private static final int FIELDS = 20;
  private static final int LINES = 60;
  private static final int PARAMETERS = 7;
  private static final int DEPTH = 8;

  private final Trees trees;
  private final CompilationUnitTree unit;
  private final Map<Element, Set<Element>> calls = new HashMap<>();
  private final List<TypeElement> classes = new ArrayList<>();

  private LanguageTest(Trees trees, CompilationUnitTree unit) {
    this.trees = trees;
    this.unit = unit;
  }

  public static void main(String[] args) throws Exception {
    JavaCompiler compiler = ToolProvider.getSystemJavaCompiler();
    StandardJavaFileManager files = compiler.getStandardFileManager(null, null, null);
    JavacTask task = (JavacTask) compiler.getTask(null, files, null, List.of("-proc:none"), null,
        files.getJavaFileObjects(SOURCE.toFile()));
    CompilationUnitTree unit = task.parse().iterator().next();
    task.analyze();
    LanguageTest test = new LanguageTest(Trees.instance(task), unit);
    test.scan(unit, null);
    test.lookAtClasses();
    test.lookAtDepth();
    lookAtFace();
    Check.exit("LanguageTest");
  }

  private static void fault(String what) {
    Check.fault(what);
  }

  private String place(Tree tree) {
    long at = trees.getSourcePositions().getStartPosition(unit, tree);
    return "line " + unit.getLineMap().getLineNumber(at);
  }

  private Element here() {
    return trees.getElement(getCurrentPath());
  }

  @Override
  public Void visitImport(ImportTree tree, Void v) {
    fault("an import at " + place(tree));
    return super.visitImport(tree, v);
  }

  @Override
  public Void visitAnnotation(AnnotationTree tree, Void v) {
    fault("an annotation at " + place(tree));
    return super.visitAnnotation(tree, v);
  }

  @Override
  public Void visitThrow(ThrowTree tree, Void v) {
    fault("throw at " + place(tree));
    return super.visitThrow(tree, v);
  }

  @Override
  public Void visitTry(TryTree tree, Void v) {
    fault("try at " + place(tree));
    return super.visitTry(tree, v);
  }

  @Override
  public Void visitAssert(AssertTree tree, Void v) {
    fault("assert at " + place(tree));
    return super.visitAssert(tree, v);
  }

  @Override
  public Void visitSynchronized(SynchronizedTree tree, Void v) {
    fault("synchronized at " + place(tree));
    return super.visitSynchronized(tree, v);
  }

  @Override
  public Void visitLambdaExpression(LambdaExpressionTree tree, Void v) {
    fault("a lambda at " + place(tree));
    return super.visitLambdaExpression(tree, v);
  }

  @Override
  public Void visitMemberReference(MemberReferenceTree tree, Void v) {
    fault("a method reference at " + place(tree));
    return super.visitMemberReference(tree, v);
  }

  /** A divisor is a number written there that is not 0, or stands behind a test of its name on the same or line before. */
  @Override
  public Void visitBinary(BinaryTree tree, Void v) {
    boolean divides = tree.getKind() == Tree.Kind.DIVIDE || tree.getKind() == Tree.Kind.REMAINDER;
    String divisor = tree.getRightOperand().toString();
    if (divides && !divisor.matches("[1-9][0-9]*")) {
      String around = String.valueOf(getCurrentPath().getParentPath().getParentPath().getParentPath().getLeaf());
      boolean tested = around.contains(divisor + " == 0 ?") || around.contains(divisor + " <= 0 ?")
          || around.contains(divisor + " != 0");
      if (!tested) fault("a divisor that is not tested, at " + place(tree));
    }
    return super.visitBinary(tree, v);
  }

  @Override
  public Void visitClass(ClassTree tree, Void v) {
    TypeElement type = (TypeElement) here();
    classes.add(type);
    Set<Modifier> modifiers = tree.getModifiers().getFlags();
    boolean inside = type.getEnclosingElement().getKind() != ElementKind.PACKAGE;
    if (inside && !modifiers.contains(Modifier.STATIC)) fault(type + " without static");
    return super.visitClass(tree, v);
  }

  @Override
  public Void visitVariable(VariableTree tree, Void v) {
    Element field = here();
    if (field.getKind() == ElementKind.FIELD && field.getModifiers().contains(Modifier.STATIC)
        && !field.getModifiers().contains(Modifier.FINAL)) {
      fault("a static field that may change at " + place(tree));
    }
    return super.visitVariable(tree, v);
  }

  @Override
  public Void visitMethod(MethodTree tree, Void v) {
    long from = unit.getLineMap().getLineNumber(trees.getSourcePositions().getStartPosition(unit, tree));
    long to = unit.getLineMap().getLineNumber(trees.getSourcePositions().getEndPosition(unit, tree));
    if (to - from >= LINES) fault(tree.getName() + " has " + (to - from + 1) + " lines");
    if (tree.getParameters().size() > PARAMETERS) fault(tree.getName() + " has too many parameters");
    calls.putIfAbsent(here(), new HashSet<>());
    return super.visitMethod(tree, v);
  }

  @Override
  public Void visitMethodInvocation(MethodInvocationTree tree, Void v) {
    Tree called = tree.getMethodSelect();
    noteCall(trees.getElement(new com.sun.source.util.TreePath(getCurrentPath(), called)), tree);
    return super.visitMethodInvocation(tree, v);
  }

  @Override
  public Void visitNewClass(NewClassTree tree, Void v) {
    if (tree.getClassBody() != null) fault("an anonymous class at " + place(tree));
    noteCall(here(), tree);
    lookAtRoom(tree);
    return super.visitNewClass(tree, v);
  }

  @Override
  public Void visitNewArray(NewArrayTree tree, Void v) {
    lookAtRoom(tree);
    return super.visitNewArray(tree, v);
  }

  /** All calls of a run live in one room: rows and objects are made with their owner, but for the PLAYERS of a quiz. */
  private void lookAtRoom(Tree made) {
    Element maker = enclosingMethod();
    boolean withOwner = maker == null || maker.getKind() == ElementKind.CONSTRUCTOR;
    if (!withOwner && !maker.getSimpleName().contentEquals("ofKind")) fault("room is taken by a call at " + place(made));
  }

  private void noteCall(Element called, Tree tree) {
    String owner = called.getEnclosingElement().toString();
    if (owner.startsWith("java.")) {
      String name = owner.substring(owner.lastIndexOf('.') + 1) + "." + called.getSimpleName();
      if (!LIBRARY.contains(name)) fault(name + " at " + place(tree));
      return;
    }
    Element caller = enclosingMethod();
    if (caller != null) calls.computeIfAbsent(caller, key -> new HashSet<>()).add(called);
  }

  private Element enclosingMethod() {
    for (var path = getCurrentPath(); path != null; path = path.getParentPath()) {
      if (path.getLeaf() instanceof MethodTree) return trees.getElement(path);
    }
    return null;
  }

  @Override
  public Void visitMemberSelect(MemberSelectTree tree, Void v) {
    Element it = here();
    if (it != null && it.getKind() == ElementKind.FIELD && String.valueOf(it.getEnclosingElement()).startsWith("java.")) {
      fault("a library's field at " + place(tree));
    }
    return super.visitMemberSelect(tree, v);
  }

  private void lookAtClasses() {
    if (classes.size() > CLASSES) fault(classes.size() + " classes");
    Set<String> face = new TreeSet<>();
    for (Element member : classes.get(0).getEnclosedElements()) {
      if (member.getModifiers().contains(Modifier.PUBLIC)) face.add(member.getSimpleName().toString());
      else if (member.getKind() != ElementKind.CLASS && !member.getModifiers().contains(Modifier.PRIVATE)) {
        fault(member + " is seen outside");
      }
    }
    for (TypeElement type : classes) {
      int fields = 0;
      for (Element member : type.getEnclosedElements()) {
        boolean isStatic = member.getModifiers().contains(Modifier.STATIC);
        if (member.getKind() == ElementKind.FIELD && !isStatic) fields++;
        boolean hidden = member.getKind() == ElementKind.METHOD && !member.getModifiers().contains(Modifier.PUBLIC);
        if (hidden && face.contains(member.getSimpleName().toString())) fault(type + "." + member + " bears a public name");
      }
      if (fields > FIELDS) fault(type + " has " + fields + " fields");
    }
  }

  private void lookAtDepth() {
    for (Element method : calls.keySet()) {
      if (!method.getModifiers().contains(Modifier.PUBLIC)) continue;
      int depth = depth(method, new ArrayList<>());
      if (depth > DEPTH) fault(method + " goes " + depth + " calls deep");
    }
  }

  /** How many calls stand open at once, this one counted. */
  private int depth(Element method, List<Element> open) {
    if (open.contains(method)) {
      fault(method + " calls itself");
      return 0;
    }
    open.add(method);
    int deepest = 0;
    for (Element candidate : calls.keySet()) {
      if (!isAnswerTo(candidate, method)) continue;
      for (Element called : calls.get(candidate)) deepest = Math.max(deepest, depth(called, open));
    }
    open.remove(open.size() - 1);
    return deepest + 1;
  }

  /** Whether the method, or by its name and parameters one of a class inside, may be what is called. */
  private static boolean isAnswerTo(Element candidate, Element called) {
    if (candidate.equals(called)) return true;
    if (candidate.getKind() != ElementKind.METHOD || called.getKind() != ElementKind.METHOD) return false;
    boolean open = !called.getModifiers().contains(Modifier.STATIC) && !called.getModifiers().contains(Modifier.PRIVATE);
    boolean alike = candidate.toString().equals(called.toString());
    return open && alike && ((ExecutableElement) candidate).getParameters().size()
        == ((ExecutableElement) called).getParameters().size();
  }

  /** The public members are those of the document's face, neither more nor fewer. */
  private static void lookAtFace() throws Exception {
    String document = Files.readString(DOCUMENT, StandardCharsets.UTF_8);
    String face = document.substring(document.indexOf("```java") + 7);
    Set<String> wanted = new TreeSet<>();
    for (String line : face.substring(0, face.indexOf("```")).split("\n")) {
      if (line.startsWith("    public ")) wanted.add(line.trim().replace(";", ""));
    }
    Set<String> found = new TreeSet<>();
    String source = Files.readString(SOURCE, StandardCharsets.US_ASCII);
    for (String line : source.split("\n")) {
      if (line.startsWith("  public ")) found.add(line.trim().replace(" {", ""));
    }
    Check.due("the face", found.toString(), wanted.toString());
  }
}
