import com.sun.source.tree.ArrayTypeTree;
import com.sun.source.tree.BlockTree;
import com.sun.source.tree.ClassTree;
import com.sun.source.tree.CompilationUnitTree;
import com.sun.source.tree.ExpressionTree;
import com.sun.source.tree.ForLoopTree;
import com.sun.source.tree.IdentifierTree;
import com.sun.source.tree.LiteralTree;
import com.sun.source.tree.MemberSelectTree;
import com.sun.source.tree.MethodInvocationTree;
import com.sun.source.tree.MethodTree;
import com.sun.source.tree.NewArrayTree;
import com.sun.source.tree.PrimitiveTypeTree;
import com.sun.source.tree.Tree;
import com.sun.source.tree.TypeCastTree;
import com.sun.source.tree.VariableTree;
import com.sun.source.util.JavacTask;
import com.sun.source.util.SourcePositions;
import com.sun.source.util.TreeScanner;
import com.sun.source.util.Trees;
import java.io.IOException;
import java.nio.file.Path;
import java.util.EnumSet;
import java.util.HashMap;
import java.util.HashSet;
import java.util.Map;
import java.util.Set;
import javax.lang.model.element.Modifier;
import javax.lang.model.type.TypeKind;
import javax.tools.JavaCompiler;
import javax.tools.StandardJavaFileManager;
import javax.tools.ToolProvider;

/** The rules of LANGUAGE.md that the source's form shows; rule 7 and the ends of loops are left to the reader. */
public final class LanguageRules extends TreeScanner<Void, Void> {
  private static final Path SOURCE = Path.of("src/main/java/OverloadPicker.java");
  private static final Set<Tree.Kind> FORBIDDEN = EnumSet.of(
      Tree.Kind.THROW, Tree.Kind.TRY, Tree.Kind.SYNCHRONIZED, Tree.Kind.ASSERT, Tree.Kind.INSTANCE_OF,
      Tree.Kind.LAMBDA_EXPRESSION, Tree.Kind.MEMBER_REFERENCE, Tree.Kind.NEW_CLASS);
  private static final int MOST_LINES = 60;
  private static final int DEEPEST = 6;
  private static final int MOST_FIELDS = 40;
  private static final int MOST_PARAMETERS = 7;

  private final CompilationUnitTree unit;
  private final SourcePositions positions;
  private final Map<String, Set<String>> calls = new HashMap<>();
  private String method = "";
  private boolean inField = false;
  private int argumentsAround = 0;
  private int fields = 0;

  private LanguageRules(CompilationUnitTree unit, SourcePositions positions) {
    this.unit = unit;
    this.positions = positions;
  }

  public static void main(String[] args) throws IOException {
    JavaCompiler compiler = ToolProvider.getSystemJavaCompiler();
    try (StandardJavaFileManager files = compiler.getStandardFileManager(null, null, null)) {
      JavacTask task = (JavacTask) compiler.getTask(null, files, null, null, null, files.getJavaFileObjects(SOURCE));
      CompilationUnitTree unit = task.parse().iterator().next();
      LanguageRules rules = new LanguageRules(unit, Trees.instance(task).getSourcePositions());
      rules.scan(unit, null);
      rules.checkCalls();
    }
    Check.end();
  }

  private void broken(int rule, Tree tree) {
    long line = unit.getLineMap().getLineNumber(positions.getStartPosition(unit, tree));
    Check.due("rule " + rule + " in line " + line + ": " + tree.toString().strip().split("\n")[0], 1, 0);
  }

  private void keep(int rule, Tree tree, boolean kept) {
    if (!kept) {
      broken(rule, tree);
    }
  }

  @Override
  public Void scan(Tree tree, Void none) {
    if (tree != null) {
      keep(6, tree, !FORBIDDEN.contains(tree.getKind()));
    }
    return super.scan(tree, none);
  }

  @Override
  public Void visitCompilationUnit(CompilationUnitTree tree, Void none) {
    Check.due("rule 1: types in the file", tree.getTypeDecls().size(), 1);
    Check.due("rule 1: a package line", tree.getPackage() != null, false);
    Check.due("rule 3: imports", tree.getImports().size(), 0);
    return super.visitCompilationUnit(tree, none);
  }

  @Override
  public Void visitClass(ClassTree tree, Void none) {
    keep(1, tree, tree.getSimpleName().contentEquals("OverloadPicker") && tree.getKind() == Tree.Kind.CLASS);
    for (Tree member : tree.getMembers()) {
      if (member instanceof VariableTree field) {
        checkField(field);
      } else if (member instanceof BlockTree block) {
        keep(5, block, !block.isStatic());
      }
    }
    Check.due("rule 10: fields within the bound", fields <= MOST_FIELDS, true);
    return super.visitClass(tree, none);
  }

  private void checkField(VariableTree field) {
    Set<Modifier> modifiers = field.getModifiers().getFlags();
    if (modifiers.contains(Modifier.STATIC)) {
      boolean number = field.getType().toString().matches("int|long");
      keep(5, field, number && modifiers.contains(Modifier.FINAL) && field.getInitializer() != null);
    } else {
      fields++;
      keep(1, field, modifiers.contains(Modifier.PRIVATE));
      keep(4, field, !(field.getType() instanceof ArrayTypeTree) || modifiers.contains(Modifier.FINAL));
    }
  }

  @Override
  public Void visitMethod(MethodTree tree, Void none) {
    method = tree.getName().toString();
    keep(1, tree, calls.putIfAbsent(method, new HashSet<>()) == null);
    keep(4, tree, !(tree.getReturnType() instanceof ArrayTypeTree));
    keep(6, tree, tree.getThrows().isEmpty());
    keep(10, tree, tree.getParameters().size() <= MOST_PARAMETERS);
    long first = unit.getLineMap().getLineNumber(positions.getStartPosition(unit, tree));
    long last = unit.getLineMap().getLineNumber(positions.getEndPosition(unit, tree));
    keep(10, tree, last - first < MOST_LINES);
    super.visitMethod(tree, none);
    method = "";
    return null;
  }

  @Override
  public Void visitVariable(VariableTree tree, Void none) {
    Tree type = tree.getType();
    keep(2, tree, isNumber(type) || type instanceof ArrayTypeTree array && isNumber(array.getType()));
    inField = method.isEmpty();
    super.visitVariable(tree, none);
    inField = false;
    return null;
  }

  private static boolean isNumber(Tree type) {
    if (!(type instanceof PrimitiveTypeTree primitive)) {
      return false;
    }
    TypeKind kind = primitive.getPrimitiveTypeKind();
    return kind != TypeKind.FLOAT && kind != TypeKind.DOUBLE && kind != TypeKind.VOID;
  }

  @Override
  public Void visitMethodInvocation(MethodInvocationTree tree, Void none) {
    keep(10, tree, argumentsAround == 0);
    if (tree.getMethodSelect() instanceof IdentifierTree called) {
      // javac's tree has the constructor call its superclass, which the source does not.
      if (!called.getName().contentEquals("super")) {
        calls.get(method).add(called.getName().toString());
      }
    } else {
      broken(3, tree);
    }
    argumentsAround++;
    for (ExpressionTree argument : tree.getArguments()) {
      scan(argument, none);
    }
    argumentsAround--;
    return null;
  }

  @Override
  public Void visitMemberSelect(MemberSelectTree tree, Void none) {
    keep(3, tree, tree.getIdentifier().contentEquals("length"));
    return super.visitMemberSelect(tree, none);
  }

  @Override
  public Void visitNewArray(NewArrayTree tree, Void none) {
    keep(4, tree, inField && tree.getDimensions().size() == 1 && tree.getInitializers() == null);
    return super.visitNewArray(tree, none);
  }

  @Override
  public Void visitLiteral(LiteralTree tree, Void none) {
    keep(2, tree, tree.getValue() != null && !(tree.getValue() instanceof String));
    return super.visitLiteral(tree, none);
  }

  @Override
  public Void visitTypeCast(TypeCastTree tree, Void none) {
    keep(6, tree, isNumber(tree.getType()));
    return super.visitTypeCast(tree, none);
  }

  @Override
  public Void visitForLoop(ForLoopTree tree, Void none) {
    keep(8, tree, tree.getCondition() != null);
    return super.visitForLoop(tree, none);
  }

  private void checkCalls() {
    for (String name : calls.keySet()) {
      for (String called : calls.get(name)) {
        Check.due("rule 3: " + called + " is a method of the class", calls.containsKey(called), true);
      }
      Check.due("rules 8 and 10: the depth of calls from " + name + " is within the bound", depth(name, 0) <= DEEPEST, true);
    }
  }

  /** Counts the method itself; a recursion runs on until it is over the bound. */
  private int depth(String name, int above) {
    int deepest = 0;
    if (above < DEEPEST) {
      for (String called : calls.getOrDefault(name, Set.of())) {
        deepest = Math.max(deepest, depth(called, above + 1));
      }
    }
    return 1 + deepest;
  }
}
