import com.sun.source.tree.*;
import com.sun.source.util.JavacTask;
import com.sun.source.util.TreeScanner;
import java.io.IOException;
import java.nio.file.Path;
import java.util.HashMap;
import java.util.HashSet;
import java.util.List;
import java.util.Map;
import java.util.Set;
import java.util.TreeSet;
import javax.lang.model.element.Modifier;
import javax.lang.model.type.TypeKind;
import javax.tools.JavaCompiler;
import javax.tools.StandardJavaFileManager;
import javax.tools.ToolProvider;

/** The rules of LANGUAGE.md that can be read off the syntax tree of the source named on the command line. */
public final class LanguageTest extends TreeScanner<Void, Void> {
  private static final Set<Tree.Kind> RULED_OUT = Set.of(
      Tree.Kind.IMPORT, Tree.Kind.PACKAGE, Tree.Kind.NEW_CLASS, Tree.Kind.THROW, Tree.Kind.TRY, Tree.Kind.CATCH,
      Tree.Kind.SYNCHRONIZED, Tree.Kind.ASSERT, Tree.Kind.INSTANCE_OF, Tree.Kind.LAMBDA_EXPRESSION,
      Tree.Kind.MEMBER_REFERENCE, Tree.Kind.NULL_LITERAL, Tree.Kind.STRING_LITERAL, Tree.Kind.FLOAT_LITERAL,
      Tree.Kind.DOUBLE_LITERAL, Tree.Kind.INTERFACE, Tree.Kind.ENUM, Tree.Kind.RECORD, Tree.Kind.ENHANCED_FOR_LOOP,
      Tree.Kind.ANNOTATION, Tree.Kind.ANNOTATION_TYPE, Tree.Kind.PARAMETERIZED_TYPE, Tree.Kind.SWITCH_EXPRESSION);
  private static final int MOST_DEPTH = 6;
  private static final int MOST_PARAMETERS = 7;
  private static final int MOST_LINES = 60;
  private static final int MOST_FIELDS = 40;

  private final Map<String, Set<String>> calls = new HashMap<>();
  private final Set<String> publicNames = new HashSet<>();
  private final Set<String> privateNames = new HashSet<>();
  private String method = null;
  private int classes = 0;
  private int fields = 0;
  private boolean inArguments = false;

  public static void main(String[] args) throws IOException {
    JavaCompiler compiler = ToolProvider.getSystemJavaCompiler();
    LanguageTest rules = new LanguageTest();
    try (StandardJavaFileManager files = compiler.getStandardFileManager(null, null, null)) {
      JavacTask task = (JavacTask) compiler.getTask(
          null, files, null, List.of("-proc:none"), null, files.getJavaFileObjects(Path.of(args[0])));
      for (CompilationUnitTree unit : task.parse()) {
        rules.scan(unit, null);
      }
    }
    rules.checkWhole();
    Checks.end();
  }

  private static void broken(int rule, String what) {
    Checks.due("rule " + rule + ": " + what, "broken", "kept");
  }

  private void checkWhole() {
    if (classes != 1) {
      broken(1, classes + " classes");
    }
    for (String name : publicNames) {
      if (privateNames.contains(name)) {
        broken(1, "private method named as a public one: " + name);
      }
    }
    if (fields > MOST_FIELDS) {
      broken(10, fields + " fields");
    }
    if (calls.size() < 16) {
      broken(1, "too few methods were found: " + calls.size());
    }
    for (String name : calls.keySet()) {
      if (depth(name, new TreeSet<>()) > MOST_DEPTH) {
        broken(10, "calls too deep, or a recursion, from " + name);
      }
    }
  }

  private int depth(String name, Set<String> above) {
    if (!calls.containsKey(name)) {
      broken(3, "call of a method that is not the class's own: " + name);
      return 0;
    }
    if (above.contains(name)) {
      broken(8, "recursion through " + name);
      return MOST_DEPTH + 1;
    }
    Set<String> here = new TreeSet<>(above);
    here.add(name);
    int deepest = 0;
    for (String called : calls.get(name)) {
      deepest = Math.max(deepest, depth(called, here));
    }
    return deepest + 1;
  }

  @Override
  public Void scan(Tree tree, Void unused) {
    if (tree != null && RULED_OUT.contains(tree.getKind())) {
      broken(6, tree.getKind() + ": " + tree);
    }
    return super.scan(tree, unused);
  }

  @Override
  public Void visitClass(ClassTree tree, Void unused) {
    classes++;
    for (Tree member : tree.getMembers()) {
      if (member instanceof BlockTree) {
        broken(5, "initialiser block");
      }
    }
    return super.visitClass(tree, unused);
  }

  @Override
  public Void visitMethod(MethodTree tree, Void unused) {
    method = tree.getName().toString();
    calls.putIfAbsent(method, new TreeSet<>());
    (tree.getModifiers().getFlags().contains(Modifier.PUBLIC) ? publicNames : privateNames).add(method);
    if (tree.getParameters().size() > MOST_PARAMETERS) {
      broken(10, "parameters of " + method);
    }
    if (tree.toString().lines().count() > MOST_LINES) {
      broken(10, "length of " + method);
    }
    if (tree.getReturnType() instanceof ArrayTypeTree) {
      broken(4, "array answered by " + method);
    }
    super.visitMethod(tree, unused);
    method = null;
    return null;
  }

  @Override
  public Void visitVariable(VariableTree tree, Void unused) {
    Set<Modifier> flags = tree.getModifiers().getFlags();
    if (!allowedType(tree.getType())) {
      broken(2, "type of " + tree);
    }
    if (method == null) {
      checkField(tree, flags);
    }
    return super.visitVariable(tree, unused);
  }

  private void checkField(VariableTree tree, Set<Modifier> flags) {
    if (!flags.contains(Modifier.STATIC)) {
      fields++;
    } else if (!flags.contains(Modifier.FINAL) || tree.getInitializer() == null
        || !Set.of("int", "long").contains(tree.getType().toString())) {
      broken(5, "static field " + tree);
    }
    if (!flags.contains(Modifier.PRIVATE) && !(flags.contains(Modifier.PUBLIC) && flags.contains(Modifier.STATIC))) {
      broken(1, "visible field " + tree);
    }
    if (tree.getType() instanceof ArrayTypeTree && !flags.contains(Modifier.FINAL)) {
      broken(4, "array field that could be assigned: " + tree);
    }
  }

  private static boolean allowedType(Tree type) {
    Tree element = type instanceof ArrayTypeTree array ? array.getType() : type;
    if (!(element instanceof PrimitiveTypeTree primitive)) {
      return false;
    }
    TypeKind kind = primitive.getPrimitiveTypeKind();
    return kind != TypeKind.FLOAT && kind != TypeKind.DOUBLE && kind != TypeKind.VOID;
  }

  @Override
  public Void visitNewArray(NewArrayTree tree, Void unused) {
    if (method != null) {
      broken(4, "array made in " + method);
    }
    boolean oneLength = tree.getInitializers() == null && tree.getDimensions().size() == 1;
    Tree length = oneLength ? tree.getDimensions().get(0) : null;
    if (!(length instanceof IdentifierTree || length instanceof LiteralTree)) {
      broken(4, "length of " + tree);
    }
    return super.visitNewArray(tree, unused);
  }

  @Override
  public Void visitTypeCast(TypeCastTree tree, Void unused) {
    if (!(tree.getType() instanceof PrimitiveTypeTree)) {
      broken(6, "cast " + tree);
    }
    return super.visitTypeCast(tree, unused);
  }

  @Override
  public Void visitMemberSelect(MemberSelectTree tree, Void unused) {
    if (!tree.getExpression().toString().equals("this")) {
      broken(3, "member of something else: " + tree);
    }
    return super.visitMemberSelect(tree, unused);
  }

  @Override
  public Void visitMethodInvocation(MethodInvocationTree tree, Void unused) {
    String name = tree.getMethodSelect().toString();
    // The parser puts no super() into a constructor, so every call here is one that the source has.
    if (method == null) {
      broken(4, "call outside a method: " + tree);
    } else {
      calls.get(method).add(name);
    }
    if (inArguments) {
      broken(10, "call inside the arguments of another: " + tree);
    }
    boolean outer = inArguments;
    inArguments = true;
    super.visitMethodInvocation(tree, unused);
    inArguments = outer;
    return null;
  }
}
