import com.sun.source.tree.ArrayAccessTree;
import com.sun.source.tree.ArrayTypeTree;
import com.sun.source.tree.AssignmentTree;
import com.sun.source.tree.BinaryTree;
import com.sun.source.tree.ClassTree;
import com.sun.source.tree.CompilationUnitTree;
import com.sun.source.tree.CompoundAssignmentTree;
import com.sun.source.tree.ExpressionTree;
import com.sun.source.tree.ForLoopTree;
import com.sun.source.tree.IdentifierTree;
import com.sun.source.tree.MemberSelectTree;
import com.sun.source.tree.MethodInvocationTree;
import com.sun.source.tree.MethodTree;
import com.sun.source.tree.NewArrayTree;
import com.sun.source.tree.PrimitiveTypeTree;
import com.sun.source.tree.Tree;
import com.sun.source.tree.Tree.Kind;
import com.sun.source.tree.UnaryTree;
import com.sun.source.tree.VariableTree;
import com.sun.source.util.JavacTask;
import com.sun.source.util.SourcePositions;
import com.sun.source.util.TreePathScanner;
import com.sun.source.util.TreeScanner;
import com.sun.source.util.Trees;
import java.nio.file.Path;
import java.util.ArrayList;
import java.util.EnumSet;
import java.util.HashMap;
import java.util.HashSet;
import java.util.List;
import java.util.Map;
import java.util.Set;
import javax.lang.model.element.Modifier;
import javax.lang.model.type.TypeKind;
import javax.tools.JavaCompiler;
import javax.tools.StandardJavaFileManager;
import javax.tools.ToolProvider;

/**
 * The rules of LANGUAGE.md, from the source of the class. What is allowed here is less than the rules
 * allow: the Java that the class uses. Of rule 7 only the divisors are seen; rule 11 follows from rule 3.
 */
public final class LanguageTest {
  private static final Check CHECK = new Check();

  private static final Set<Kind> ALLOWED = EnumSet.of(
      Kind.COMPILATION_UNIT, Kind.CLASS, Kind.MODIFIERS, Kind.METHOD, Kind.VARIABLE,
      Kind.PRIMITIVE_TYPE, Kind.ARRAY_TYPE, Kind.BLOCK, Kind.IF, Kind.FOR_LOOP, Kind.RETURN,
      Kind.EXPRESSION_STATEMENT, Kind.ASSIGNMENT, Kind.PLUS_ASSIGNMENT, Kind.OR_ASSIGNMENT,
      Kind.POSTFIX_INCREMENT, Kind.POSTFIX_DECREMENT, Kind.IDENTIFIER, Kind.MEMBER_SELECT,
      Kind.METHOD_INVOCATION, Kind.ARRAY_ACCESS, Kind.NEW_ARRAY, Kind.INT_LITERAL, Kind.BOOLEAN_LITERAL,
      Kind.PARENTHESIZED, Kind.CONDITIONAL_EXPRESSION, Kind.CONDITIONAL_AND, Kind.CONDITIONAL_OR,
      Kind.LOGICAL_COMPLEMENT, Kind.UNARY_MINUS, Kind.PLUS, Kind.MINUS, Kind.MULTIPLY, Kind.AND,
      Kind.LEFT_SHIFT, Kind.RIGHT_SHIFT, Kind.EQUAL_TO, Kind.NOT_EQUAL_TO, Kind.LESS_THAN,
      Kind.GREATER_THAN, Kind.LESS_THAN_EQUAL, Kind.GREATER_THAN_EQUAL);
  private static final Set<TypeKind> NUMBERS = EnumSet.of(
      TypeKind.INT, TypeKind.LONG, TypeKind.SHORT, TypeKind.BYTE, TypeKind.CHAR, TypeKind.BOOLEAN);
  private static final Set<Modifier> MODIFIERS =
      EnumSet.of(Modifier.PUBLIC, Modifier.PRIVATE, Modifier.STATIC, Modifier.FINAL);

  private static final int MOST_PARAMETERS = 7;
  private static final int MOST_LINES = 60;
  private static final int MOST_DEPTH = 6;
  private static final int MOST_FIELDS = 40;

  private final CompilationUnitTree unit;
  private final SourcePositions positions;
  private final ClassTree program;
  private final Map<String, MethodTree> methods = new HashMap<>();
  private final Map<String, VariableTree> fields = new HashMap<>();

  public static void main(String[] args) throws Exception {
    JavaCompiler compiler = ToolProvider.getSystemJavaCompiler();
    try (StandardJavaFileManager files = compiler.getStandardFileManager(null, null, null)) {
      JavacTask task = (JavacTask) compiler.getTask(null, files, null, null, null,
          files.getJavaFileObjects(Path.of("src/main/java/SolidHull.java")));
      new LanguageTest(task.parse().iterator().next(), Trees.instance(task).getSourcePositions()).test();
    }
    CHECK.end();
  }

  private LanguageTest(CompilationUnitTree unit, SourcePositions positions) {
    this.unit = unit;
    this.positions = positions;
    program = (ClassTree) unit.getTypeDecls().get(0);
  }

  private void test() {
    oneClass();
    kinds();
    types();
    names();
    arrays();
    constants();
    loops();
    calls();
    sizes();
  }

  private void must(Tree where, String what, boolean holds) {
    CHECK.due("line " + line(positions.getStartPosition(unit, where)) + ": " + what, holds, true);
  }

  private long line(long position) {
    return unit.getLineMap().getLineNumber(position);
  }

  private void oneClass() {
    CHECK.sentence("rule 1: one class");
    must(unit, "no package", unit.getPackage() == null);
    must(unit, "one class", unit.getTypeDecls().size() == 1);
    must(program, "its name", program.getSimpleName().contentEquals("SolidHull"));
    must(program, "public and final",
        program.getModifiers().getFlags().equals(EnumSet.of(Modifier.PUBLIC, Modifier.FINAL)));
    must(program, "no other class", program.getExtendsClause() == null && program.getImplementsClause().isEmpty());
    for (Tree member : program.getMembers()) {
      if (member instanceof MethodTree method) {
        must(method, "modifiers", MODIFIERS.containsAll(method.getModifiers().getFlags()));
        must(method, "no other method of this name", methods.put(method.getName().toString(), method) == null);
      } else if (member instanceof VariableTree field) {
        must(field, "modifiers", MODIFIERS.containsAll(field.getModifiers().getFlags()));
        fields.put(field.getName().toString(), field);
      } else {
        must(member, "a field or a method", false);
      }
    }
  }

  private void kinds() {
    CHECK.sentence("rules 2 to 6: the part of Java");
    must(unit, "no import", unit.getImports().isEmpty());
    new TreeScanner<Void, Void>() {
      @Override
      public Void scan(Tree tree, Void none) {
        if (tree != null) {
          must(tree, tree.getKind() + " is not among the kinds of Java that the class uses", ALLOWED.contains(tree.getKind()));
        }
        return super.scan(tree, none);
      }
    }.scan(unit, null);
  }

  private void types() {
    CHECK.sentence("rules 2 and 4: numbers, and arrays of numbers in fields alone");
    new TreePathScanner<Void, Void>() {
      @Override
      public Void visitVariable(VariableTree variable, Void none) {
        boolean isField = getCurrentPath().getParentPath().getLeaf() == program;
        Tree type = variable.getType();
        must(variable, "type", isNumber(type) || isField && isArray(variable));
        return super.visitVariable(variable, none);
      }

      @Override
      public Void visitMethod(MethodTree method, Void none) {
        Tree type = method.getReturnType();
        must(method, "type of its answer", isConstructor(method) || isNumber(type) || isVoid(type));
        return super.visitMethod(method, none);
      }
    }.scan(unit, null);
  }

  private static boolean isConstructor(MethodTree method) {
    return method.getName().contentEquals("<init>");
  }

  private static boolean isNumber(Tree type) {
    return type instanceof PrimitiveTypeTree primitive && NUMBERS.contains(primitive.getPrimitiveTypeKind());
  }

  private static boolean isVoid(Tree type) {
    return type instanceof PrimitiveTypeTree primitive && primitive.getPrimitiveTypeKind() == TypeKind.VOID;
  }

  private static boolean isArray(VariableTree variable) {
    return variable.getType() instanceof ArrayTypeTree array && isNumber(array.getType());
  }

  /** A name with a dot could be the Java library's: only this.room is needed. */
  private void names() {
    CHECK.sentence("rule 3: no class of the Java library");
    new TreeScanner<Void, Void>() {
      @Override
      public Void visitMemberSelect(MemberSelectTree select, Void none) {
        must(select, select + " is a field of this", select.getExpression().toString().equals("this")
            && fields.containsKey(select.getIdentifier().toString()));
        return super.visitMemberSelect(select, none);
      }

      @Override
      public Void visitMethodInvocation(MethodInvocationTree call, Void none) {
        String name = call.getMethodSelect().toString();
        must(call, name + " is a method of the class", methods.containsKey(name));
        return super.visitMethodInvocation(call, none);
      }
    }.scan(unit, null);
  }

  private void arrays() {
    CHECK.sentence("rule 4: arrays are made in a field's initialiser and used by their elements alone");
    for (VariableTree field : fields.values()) {
      if (isArray(field)) {
        Set<Modifier> flags = field.getModifiers().getFlags();
        must(field, "private and final", flags.equals(EnumSet.of(Modifier.PRIVATE, Modifier.FINAL)));
        must(field, "made here", field.getInitializer() instanceof NewArrayTree);
      }
    }
    new TreePathScanner<Void, Void>() {
      @Override
      public Void visitNewArray(NewArrayTree made, Void none) {
        must(made, "made in a field", fields.containsValue(getCurrentPath().getParentPath().getLeaf()));
        must(made, "length", made.getInitializers() == null && made.getDimensions().size() == 1
            && isConstant(made.getDimensions().get(0)));
        return super.visitNewArray(made, none);
      }

      @Override
      public Void visitIdentifier(IdentifierTree name, Void none) {
        VariableTree field = fields.get(name.getName().toString());
        if (field != null && isArray(field)) {
          Tree parent = getCurrentPath().getParentPath().getLeaf();
          must(name, "an element of " + name, parent instanceof ArrayAccessTree access && access.getExpression() == name);
        }
        return super.visitIdentifier(name, none);
      }
    }.scan(unit, null);
  }

  private boolean isConstant(ExpressionTree length) {
    VariableTree field = fields.get(length.toString());
    String value = field == null ? length.toString() : field.getInitializer().toString();
    return (field == null || isStatic(field)) && value.matches("[1-9][0-9]*");
  }

  private static boolean isStatic(VariableTree field) {
    return field.getModifiers().getFlags().contains(Modifier.STATIC);
  }

  private void constants() {
    CHECK.sentence("rule 5: static fields are constants of int or long");
    for (VariableTree field : fields.values()) {
      if (isStatic(field)) {
        must(field, "final", field.getModifiers().getFlags().contains(Modifier.FINAL));
        must(field, "int or long", field.getType().toString().matches("int|long"));
        must(field, "constant", field.getInitializer() != null && field.getInitializer().toString().matches("-?[0-9]+L?"));
      }
    }
  }

  private void loops() {
    CHECK.sentence("rule 8: every loop has an end that can be seen from its own lines");
    new TreeScanner<Void, Void>() {
      @Override
      public Void visitForLoop(ForLoopTree loop, Void none) {
        must(loop, "counts up to a bound", countsUp(loop));
        return super.visitForLoop(loop, none);
      }
    }.scan(unit, null);
  }

  /** for (int i = ..; i < bound; i++), where neither i nor the bound is changed by the lines within. */
  private static boolean countsUp(ForLoopTree loop) {
    if (loop.getInitializer().size() != 1 || loop.getUpdate().size() != 1
        || !(loop.getInitializer().get(0) instanceof VariableTree counter)
        || !(loop.getCondition() instanceof BinaryTree condition)) {
      return false;
    }
    String name = counter.getName().toString();
    String bound = condition.getRightOperand().toString();
    Set<String> changed = changedIn(loop.getStatement());
    return condition.getKind() == Kind.LESS_THAN
        && condition.getLeftOperand().toString().equals(name)
        && bound.matches("\\w+")
        && loop.getUpdate().get(0).toString().replace(";", "").equals(name + "++")
        && !changed.contains(name)
        && !changed.contains(bound);
  }

  private static Set<String> changedIn(Tree body) {
    Set<String> changed = new HashSet<>();
    new TreeScanner<Void, Void>() {
      @Override
      public Void visitAssignment(AssignmentTree assignment, Void none) {
        changed.add(assignment.getVariable().toString());
        return super.visitAssignment(assignment, none);
      }

      @Override
      public Void visitCompoundAssignment(CompoundAssignmentTree assignment, Void none) {
        changed.add(assignment.getVariable().toString());
        return super.visitCompoundAssignment(assignment, none);
      }

      @Override
      public Void visitUnary(UnaryTree unary, Void none) {
        if (unary.getKind() == Kind.POSTFIX_INCREMENT || unary.getKind() == Kind.POSTFIX_DECREMENT) {
          changed.add(unary.getExpression().toString());
        }
        return super.visitUnary(unary, none);
      }
    }.scan(body, null);
    return changed;
  }

  private void calls() {
    CHECK.sentence("rules 8 and 10: no recursion; calls go at most six deep, and none stands in another's arguments");
    for (MethodTree method : methods.values()) {
      must(method, "calls from here go at most six deep", depth(method, 1) <= MOST_DEPTH);
      for (MethodInvocationTree call : callsIn(method)) {
        must(call, "no call in the arguments", callsIn(call).size() == 1);
      }
    }
  }

  /** Stops beyond the most depth that is allowed, so that it ends for methods that call each other. */
  private int depth(MethodTree method, int above) {
    int deepest = above;
    if (above <= MOST_DEPTH) {
      for (MethodInvocationTree call : callsIn(method)) {
        MethodTree called = methods.get(call.getMethodSelect().toString());
        if (called != null) {
          deepest = Math.max(deepest, depth(called, above + 1));
        }
      }
    }
    return deepest;
  }

  private static List<MethodInvocationTree> callsIn(Tree tree) {
    List<MethodInvocationTree> calls = new ArrayList<>();
    new TreeScanner<Void, Void>() {
      @Override
      public Void visitMethodInvocation(MethodInvocationTree call, Void none) {
        calls.add(call);
        return super.visitMethodInvocation(call, none);
      }
    }.scan(tree, null);
    return calls;
  }

  private void sizes() {
    CHECK.sentence("rule 10: at most seven parameters, short methods, at most some forty fields beside the constants");
    for (MethodTree method : methods.values()) {
      must(method, "parameters", method.getParameters().size() <= MOST_PARAMETERS);
      long first = line(positions.getStartPosition(unit, method));
      long last = line(positions.getEndPosition(unit, method));
      must(method, "lines", last - first < MOST_LINES);
    }
    must(program, "fields", fields.values().stream().filter(field -> !isStatic(field)).count() <= MOST_FIELDS);
  }
}
