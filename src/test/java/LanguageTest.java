import com.sun.source.tree.BinaryTree;
import com.sun.source.tree.BlockTree;
import com.sun.source.tree.ClassTree;
import com.sun.source.tree.CompilationUnitTree;
import com.sun.source.tree.CompoundAssignmentTree;
import com.sun.source.tree.ExpressionTree;
import com.sun.source.tree.ForLoopTree;
import com.sun.source.tree.IfTree;
import com.sun.source.tree.ImportTree;
import com.sun.source.tree.LiteralTree;
import com.sun.source.tree.MethodInvocationTree;
import com.sun.source.tree.MethodTree;
import com.sun.source.tree.NewArrayTree;
import com.sun.source.tree.NewClassTree;
import com.sun.source.tree.Tree;
import com.sun.source.tree.VariableTree;
import com.sun.source.util.JavacTask;
import com.sun.source.util.TreePath;
import com.sun.source.util.TreePathScanner;
import com.sun.source.util.Trees;
import java.lang.reflect.Array;
import java.lang.reflect.Constructor;
import java.lang.reflect.Field;
import java.lang.reflect.Method;
import java.lang.reflect.Modifier;
import java.nio.file.Files;
import java.nio.file.Path;
import java.util.ArrayList;
import java.util.Collections;
import java.util.HashSet;
import java.util.IdentityHashMap;
import java.util.List;
import java.util.Map;
import java.util.Set;
import java.util.TreeMap;
import java.util.TreeSet;
import java.util.regex.Matcher;
import java.util.regex.Pattern;
import javax.lang.model.element.Element;
import javax.lang.model.element.ElementKind;
import javax.lang.model.element.ExecutableElement;
import javax.lang.model.element.VariableElement;
import javax.tools.JavaCompiler;
import javax.tools.StandardJavaFileManager;
import javax.tools.ToolProvider;

/** The face of the class, and the rules of LANGUAGE.md, by their numbers, as javac reads the class. */
public final class LanguageTest {
  private static final Path SOURCE = Path.of("src/main/java/ScaffoldYard.java");
  private static final Path DOCUMENT = Path.of("../shared/DOC.md");
  private static final Set<String> LIBRARY = Set.of("java.lang.Math.max", "java.lang.Math.min", "java.lang.Math.abs", "java.util.Arrays.fill");
  private static final Set<String> NUMBERS = Set.of("int", "long", "boolean", "int[]", "long[]", "boolean[]", "int[][]");
  private static int wrong = 0;

  private static void must(boolean holds, String what) {
    if (!holds) {
      wrong++;
      System.out.println("not so: " + what);
    }
  }

  // ---- rule 1: the face

  private static String told(String type, String name, List<String> types) {
    return type + " " + name + "(" + String.join(",", types) + ")";
  }

  private static Set<String> documentFace(String document) {
    Set<String> face = new TreeSet<>();
    Matcher m = Pattern.compile("public (int|long) (\\w+)\\(([^)]*)\\);").matcher(document);
    while (m.find()) {
      List<String> types = new ArrayList<>();
      for (String part : m.group(3).split(",")) if (!part.isBlank()) types.add(part.trim().split(" ")[0]);
      face.add(told(m.group(1), m.group(2), types));
    }
    return face;
  }

  private static void face(String document) throws Exception {
    Set<String> own = new TreeSet<>();
    Set<String> publicNames = new TreeSet<>();
    for (Method m : ScaffoldYard.class.getDeclaredMethods()) {
      if (Modifier.isPrivate(m.getModifiers()) || m.isSynthetic()) continue;
      List<String> types = new ArrayList<>();
      for (Class<?> type : m.getParameterTypes()) types.add(type.getName());
      own.add(told(m.getReturnType().getName(), m.getName(), types));
      publicNames.add(m.getName());
      must(Modifier.isPublic(m.getModifiers()), "1: " + m + " is public");
    }
    must(own.size() == 43 && own.equals(documentFace(document)), "1: the calls are those of the document: " + own);
    Constructor<?>[] makers = ScaffoldYard.class.getDeclaredConstructors();
    must(makers.length == 1 && Modifier.isPublic(makers[0].getModifiers()) && makers[0].getParameterCount() == 0, "1: one public constructor");
    must(Modifier.isFinal(ScaffoldYard.class.getModifiers()), "1: the class is final");
    Set<String> constants = new TreeSet<>();
    for (Field field : ScaffoldYard.class.getDeclaredFields()) {
      if (!Modifier.isPrivate(field.getModifiers())) constants.add(field.getName() + " " + field.get(null));
    }
    must(constants.equals(Set.of("BAD -1000000001", "NO -1000000002", "FULL -1000000003", "NOTHING -1000000011", "INDEX -1000000013", "NONE -1000000005")),
        "1: the constants are those of the document: " + constants);
    for (Method m : ScaffoldYard.class.getDeclaredMethods()) {
      must(!Modifier.isPrivate(m.getModifiers()) || !publicNames.contains(m.getName()), "1: " + m + " bears no public call's name");
    }
    for (Class<?> inside : ScaffoldYard.class.getDeclaredClasses()) {
      int is = inside.getModifiers();
      must(Modifier.isStatic(is) && !Modifier.isPublic(is) && !Modifier.isProtected(is), "1: " + inside + " is static and not public");
      for (Method m : inside.getDeclaredMethods()) must(!publicNames.contains(m.getName()), "1: " + m + " bears no public call's name");
    }
    must(ScaffoldYard.class.getDeclaredClasses().length <= 11, "11: at most twelve classes");
  }

  // ---- the other rules, as javac reads them

  /** Walks over the class and looks at each piece of it. */
  private static final class Reader extends TreePathScanner<Void, Void> {
    final Trees trees;
    final CompilationUnitTree unit;
    final Map<String, Set<String>> calls = new TreeMap<>();
    final Set<String> classes = new HashSet<>();

    Reader(Trees trees, CompilationUnitTree unit) {
      this.trees = trees;
      this.unit = unit;
    }

    private String where(Tree tree) {
      return " in line " + unit.getLineMap().getLineNumber(trees.getSourcePositions().getStartPosition(unit, tree));
    }

    private long lines(Tree tree) {
      long first = unit.getLineMap().getLineNumber(trees.getSourcePositions().getStartPosition(unit, tree));
      return unit.getLineMap().getLineNumber(trees.getSourcePositions().getEndPosition(unit, tree)) - first + 1;
    }

    private MethodTree methodAround() {
      for (TreePath at = getCurrentPath(); at != null; at = at.getParentPath()) {
        if (at.getLeaf() instanceof MethodTree) return (MethodTree) at.getLeaf();
      }
      return null;
    }

    private static String nameOf(Element e) {
      return e.getEnclosingElement() + "." + e.getSimpleName();
    }

    @Override public Void scan(Tree tree, Void none) {
      if (tree != null) {
        switch (tree.getKind()) {
          case THROW: case TRY: case CATCH: case SYNCHRONIZED: case ASSERT:
            must(false, "6: no " + tree.getKind() + where(tree));
            break;
          case LAMBDA_EXPRESSION: case MEMBER_REFERENCE:
            must(false, "2: no " + tree.getKind() + where(tree));
            break;
          case WHILE_LOOP: case DO_WHILE_LOOP:
            must(false, "9: no loop without a counter" + where(tree));
            break;
          default:
        }
      }
      return super.scan(tree, none);
    }

    @Override public Void visitClass(ClassTree tree, Void none) {
      must(methodAround() == null, "2: no class in a method" + where(tree));
      int fields = 0;
      for (Tree member : tree.getMembers()) {
        must(!(member instanceof BlockTree), "5: no initialiser block" + where(member));
        if (!(member instanceof VariableTree)) continue;
        VariableTree field = (VariableTree) member;
        Set<javax.lang.model.element.Modifier> is = field.getModifiers().getFlags();
        if (!is.contains(javax.lang.model.element.Modifier.STATIC)) fields++;
        VariableElement e = (VariableElement) trees.getElement(new TreePath(getCurrentPath(), member));
        must(!is.contains(javax.lang.model.element.Modifier.STATIC) || e.getConstantValue() != null, "5: " + e + " is a constant");
      }
      must(fields <= 20, "11: at most twenty fields" + where(tree));
      return super.visitClass(tree, none);
    }

    @Override public Void visitVariable(VariableTree tree, Void none) {
      String type = tree.getType().toString();
      must(NUMBERS.contains(type) || classes.contains(type.replace("[]", "")) && !type.endsWith("[][]"), "3: no " + type + where(tree));
      return super.visitVariable(tree, none);
    }

    @Override public Void visitMethod(MethodTree tree, Void none) {
      must(tree.getParameters().size() <= 7, "11: at most seven parameters" + where(tree));
      must(lines(tree) <= 60, "11: at most sixty lines" + where(tree));
      calls.computeIfAbsent(nameOf(trees.getElement(getCurrentPath())), any -> new TreeSet<>());
      return super.visitMethod(tree, none);
    }

    private void calls(Element to, Tree tree) {
      MethodTree from = methodAround();
      if (from == null) return;
      calls.computeIfAbsent(nameOf(trees.getElement(trees.getPath(unit, from))), any -> new TreeSet<>()).add(nameOf(to));
    }

    @Override public Void visitMethodInvocation(MethodInvocationTree tree, Void none) {
      ExecutableElement to = (ExecutableElement) trees.getElement(getCurrentPath());
      boolean own = to.getEnclosingElement().toString().startsWith("ScaffoldYard");
      boolean above = to.getKind() == ElementKind.CONSTRUCTOR && tree.getArguments().isEmpty();
      must(own || above || LIBRARY.contains(nameOf(to)), "4: no " + nameOf(to) + where(tree));
      must(!to.getSimpleName().contentEquals("fill") || to.getParameters().get(0).asType().toString().matches("int\\[\\]|long\\[\\]"), "4: fill is for numbers" + where(tree));
      if (own) calls(to, tree);
      return super.visitMethodInvocation(tree, none);
    }

    @Override public Void visitNewClass(NewClassTree tree, Void none) {
      must(tree.getClassBody() == null, "2: no anonymous class" + where(tree));
      made(tree);
      return super.visitNewClass(tree, none);
    }

    @Override public Void visitNewArray(NewArrayTree tree, Void none) {
      made(tree);
      return super.visitNewArray(tree, none);
    }

    /** All calls of a run live in one room, so that no call makes anything. */
    private void made(Tree tree) {
      MethodTree around = methodAround();
      must(around == null || around.getReturnType() == null, "12: nothing is made but in a constructor" + where(tree));
    }

    @Override public Void visitForLoop(ForLoopTree tree, Void none) {
      must(tree.getCondition() != null && tree.getUpdate().size() == 1, "9: a loop counts against a bound" + where(tree));
      return super.visitForLoop(tree, none);
    }

    private void divides(ExpressionTree by, Tree tree) {
      Element e = trees.getElement(new TreePath(getCurrentPath(), by));
      boolean constant = e instanceof VariableElement && ((VariableElement) e).getConstantValue() instanceof Integer && (Integer) ((VariableElement) e).getConstantValue() > 0;
      boolean literal = by instanceof LiteralTree && ((Number) ((LiteralTree) by).getValue()).longValue() > 0;
      must(constant || literal || isTested(by.toString()), "7: " + by + " is looked at ahead of " + tree);
    }

    /** Whether an if or a loop around the place says that a number is not 0. */
    private boolean isTested(String name) {
      Pattern test = Pattern.compile("\\b" + Pattern.quote(name) + " (!= 0|> [01])(?!\\d)");
      for (TreePath at = getCurrentPath(); at != null; at = at.getParentPath()) {
        if (at.getLeaf() instanceof IfTree && test.matcher(((IfTree) at.getLeaf()).getCondition().toString()).find()) return true;
        if (at.getLeaf() instanceof ForLoopTree && test.matcher(((ForLoopTree) at.getLeaf()).getCondition().toString()).find()) return true;
      }
      return false;
    }

    @Override public Void visitBinary(BinaryTree tree, Void none) {
      if (tree.getKind() == Tree.Kind.DIVIDE || tree.getKind() == Tree.Kind.REMAINDER) divides(tree.getRightOperand(), tree);
      return super.visitBinary(tree, none);
    }

    @Override public Void visitCompoundAssignment(CompoundAssignmentTree tree, Void none) {
      if (tree.getKind() == Tree.Kind.DIVIDE_ASSIGNMENT || tree.getKind() == Tree.Kind.REMAINDER_ASSIGNMENT) divides(tree.getExpression(), tree);
      return super.visitCompoundAssignment(tree, none);
    }

    /** How many calls stand open at most, from a method on; one that calls itself, by whatever way, is told. */
    int depth(String method, List<String> open) {
      must(!open.contains(method), "8: no recursion of " + method);
      if (open.contains(method)) return 0;
      open.add(method);
      int most = 0;
      for (String to : calls.getOrDefault(method, Set.of())) most = Math.max(most, depth(to, open));
      open.remove(method);
      return most + 1;
    }
  }

  private static void rules() throws Exception {
    JavaCompiler compiler = ToolProvider.getSystemJavaCompiler();
    try (StandardJavaFileManager files = compiler.getStandardFileManager(null, null, null)) {
      JavacTask task = (JavacTask) compiler.getTask(null, files, null, List.of("-proc:none"), null, files.getJavaFileObjects(SOURCE));
      CompilationUnitTree unit = task.parse().iterator().next();
      task.analyze();
      must(unit.getPackage() == null && unit.getTypeDecls().size() == 1, "one class, without a package");
      for (ImportTree i : unit.getImports()) must(i.getQualifiedIdentifier().toString().equals("java.util.Arrays"), "4: " + i);
      Reader reader = new Reader(Trees.instance(task), unit);
      for (Class<?> inside : ScaffoldYard.class.getDeclaredClasses()) reader.classes.add(inside.getSimpleName());
      reader.scan(new TreePath(unit), null);
      must(reader.calls.size() > 100, "the methods are read: " + reader.calls.size());
      for (String method : reader.calls.keySet()) {
        int deep = reader.depth(method, new ArrayList<>());
        must(deep <= 8, "11: calls go at most eight deep, from " + method + " " + deep);
      }
    }
    for (char sign : Files.readString(SOURCE).toCharArray()) must(sign < 128, "4: signs are 1 to 127");
  }

  // ---- the room: what an object holds is made with it, and is small

  private static int held(Object object, Set<Object> seen) throws Exception {
    if (object == null || !seen.add(object)) return 0;
    int all = 1;
    if (object instanceof Object[]) {
      for (Object part : (Object[]) object) all += 1 + held(part, seen);
      return all;
    }
    if (object.getClass().isArray()) return all + Array.getLength(object);
    for (Field field : object.getClass().getDeclaredFields()) {
      if (Modifier.isStatic(field.getModifiers())) continue;
      field.setAccessible(true);
      all += 1 + (field.getType().isPrimitive() ? 0 : held(field.get(object), seen));
    }
    return all;
  }

  private static void room() throws Exception {
    int held = held(new ScaffoldYard(), Collections.newSetFromMap(new IdentityHashMap<>()));
    must(held > 1000 && held < 6000, "12: an object holds some 5000 fields and elements: " + held);
  }

  public static void main(String[] args) throws Exception {
    face(Files.readString(DOCUMENT));
    rules();
    room();
    System.out.println(wrong == 0 ? "the face and the rules hold" : wrong + " rules are broken");
    if (wrong != 0) System.exit(1);
  }
}
