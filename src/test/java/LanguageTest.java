import com.sun.source.tree.*;
import com.sun.source.tree.Tree.Kind;
import com.sun.source.util.JavacTask;
import com.sun.source.util.TreePath;
import com.sun.source.util.TreePathScanner;
import com.sun.source.util.Trees;
import java.io.IOException;
import java.nio.file.Path;
import java.util.ArrayList;
import java.util.EnumSet;
import java.util.LinkedHashMap;
import java.util.LinkedHashSet;
import java.util.List;
import java.util.Map;
import java.util.Set;
import java.util.function.Consumer;
import javax.lang.model.element.Element;
import javax.lang.model.element.ElementKind;
import javax.lang.model.element.ExecutableElement;
import javax.lang.model.element.Modifier;
import javax.lang.model.element.VariableElement;
import javax.lang.model.type.ArrayType;
import javax.lang.model.type.TypeKind;
import javax.lang.model.type.TypeMirror;
import javax.tools.StandardJavaFileManager;
import javax.tools.ToolProvider;

/**
 * The rules of LANGUAGE.md that the text of the program can break, looked for in the tree that javac makes of
 * it (FaceTest looks at the members, EndsTest at rule 7). In places the test is narrower than the rule, because
 * the plain form is easier to see: arrays are made in fields' initialisers alone, no variable changes to another
 * array, no block stands beside the methods, and loops are counted for loops alone. A change of the program that
 * needs more of the rule has to widen the test.
 */
public final class LanguageTest {
    private static final int MOST_LINES = 60;
    private static final int MOST_DEEP = 6;
    private static final int MOST_PARAMETERS = 7;

    private static final Set<TypeKind> NUMBERS = EnumSet.of(
        TypeKind.INT, TypeKind.LONG, TypeKind.SHORT, TypeKind.BYTE, TypeKind.CHAR, TypeKind.BOOLEAN);

    /** What a program can be made of; all that rule 6 forbids, and all literals of other types, are not among them. */
    private static final Set<Kind> ALLOWED = EnumSet.of(
        Kind.COMPILATION_UNIT, Kind.CLASS, Kind.MODIFIERS, Kind.VARIABLE, Kind.METHOD, Kind.PRIMITIVE_TYPE, Kind.ARRAY_TYPE,
        Kind.BLOCK, Kind.EMPTY_STATEMENT, Kind.EXPRESSION_STATEMENT, Kind.IF, Kind.FOR_LOOP, Kind.SWITCH, Kind.CASE,
        Kind.SWITCH_EXPRESSION, Kind.YIELD, Kind.BREAK, Kind.CONTINUE, Kind.LABELED_STATEMENT, Kind.RETURN,
        Kind.INT_LITERAL, Kind.LONG_LITERAL, Kind.CHAR_LITERAL, Kind.BOOLEAN_LITERAL,
        Kind.IDENTIFIER, Kind.MEMBER_SELECT, Kind.METHOD_INVOCATION, Kind.NEW_ARRAY, Kind.ARRAY_ACCESS, Kind.TYPE_CAST,
        Kind.PARENTHESIZED, Kind.CONDITIONAL_EXPRESSION, Kind.ASSIGNMENT,
        Kind.PLUS_ASSIGNMENT, Kind.MINUS_ASSIGNMENT, Kind.MULTIPLY_ASSIGNMENT, Kind.DIVIDE_ASSIGNMENT, Kind.REMAINDER_ASSIGNMENT,
        Kind.AND_ASSIGNMENT, Kind.OR_ASSIGNMENT, Kind.XOR_ASSIGNMENT, Kind.LEFT_SHIFT_ASSIGNMENT, Kind.RIGHT_SHIFT_ASSIGNMENT,
        Kind.UNSIGNED_RIGHT_SHIFT_ASSIGNMENT,
        Kind.POSTFIX_INCREMENT, Kind.POSTFIX_DECREMENT, Kind.PREFIX_INCREMENT, Kind.PREFIX_DECREMENT,
        Kind.UNARY_PLUS, Kind.UNARY_MINUS, Kind.BITWISE_COMPLEMENT, Kind.LOGICAL_COMPLEMENT,
        Kind.PLUS, Kind.MINUS, Kind.MULTIPLY, Kind.DIVIDE, Kind.REMAINDER,
        Kind.LEFT_SHIFT, Kind.RIGHT_SHIFT, Kind.UNSIGNED_RIGHT_SHIFT, Kind.AND, Kind.OR, Kind.XOR,
        Kind.LESS_THAN, Kind.LESS_THAN_EQUAL, Kind.GREATER_THAN, Kind.GREATER_THAN_EQUAL, Kind.EQUAL_TO, Kind.NOT_EQUAL_TO,
        Kind.CONDITIONAL_AND, Kind.CONDITIONAL_OR);

    private static final Due due = new Due();

    private final CompilationUnitTree unit;
    private final Trees trees;
    private final List<TreePath> paths = new ArrayList<>();
    private List<String> breaches = new ArrayList<>();

    private LanguageTest(CompilationUnitTree unit, Trees trees) {
        this.unit = unit;
        this.trees = trees;
        new TreePathScanner<Void, Void>() {
            @Override
            public Void scan(Tree tree, Void nothing) {
                if (tree != null) {
                    paths.add(tree == unit ? new TreePath(unit) : new TreePath(getCurrentPath(), tree));
                }
                return super.scan(tree, nothing);
            }
        }.scan(new TreePath(unit), null);
    }

    public static void main(String[] args) throws IOException {
        Path program = Due.project().resolve("src/main/java/RoundArchive.java");
        try (StandardJavaFileManager files = ToolProvider.getSystemJavaCompiler().getStandardFileManager(null, null, null)) {
            JavacTask task = (JavacTask) ToolProvider.getSystemJavaCompiler().getTask(
                null, files, null, List.of("--release", "17", "-proc:none"), null, files.getJavaFileObjects(program));
            CompilationUnitTree unit = task.parse().iterator().next();
            task.analyze();
            new LanguageTest(unit, Trees.instance(task)).rules();
        }
        due.end();
    }

    private void rules() {
        rule("1: one class, without a package line", this::oneClass);
        rule("2: int, long, short, byte, char, boolean, and one-dimensional arrays of these", this::types);
        rule("3: no class of the Java library; nothing is imported; none of Object's methods is called", this::noLibrary);
        rule("4: arrays are made in a field's initialiser, with a length, 1 or more, that is a literal or a constant", this::arraysMade);
        rule("4: an array is never answered by a method, never compared with another one or with null", this::arraysCompared);
        rule("4: no method assigns to an array field; a local variable that names an array doesn't change", this::arraysAssigned);
        rule("4: the constructor hands a private method that isn't static no array", this::arraysHanded);
        rule("5: static fields are compile-time constants of int or long alone; no static initialiser", this::statics);
        rule("6 and 9: what a program is made of", this::allowedKinds);
        rule("8: no recursion, neither direct nor through other methods; 10: calls go at most six deep", this::callsEnd);
        rule("8: every loop has an end that can be seen from its own lines", this::loopsEnd);
        rule("10: a method takes at most seven parameters and stays short", this::methodsShort);
        rule("10: no call stands inside the arguments of another call", this::callsInArguments);
    }

    private void rule(String words, Runnable look) {
        due.test("LANGUAGE.md, rule " + words, () -> {
            breaches = new ArrayList<>();
            look.run();
            due.is("the program", breaches, List.of());
        });
    }

    private void breach(Tree tree, String words) {
        long line = unit.getLineMap().getLineNumber(trees.getSourcePositions().getStartPosition(unit, tree));
        breaches.add("line " + line + ": " + words);
    }

    private void each(Consumer<TreePath> look, Kind... kinds) {
        Set<Kind> wanted = Set.of(kinds);
        for (TreePath path : paths) {
            if (wanted.contains(path.getLeaf().getKind())) {
                look.accept(path);
            }
        }
    }

    private Element element(Tree tree) {
        return trees.getElement(trees.getPath(unit, tree));
    }

    private TypeMirror type(Tree tree) {
        return trees.getTypeMirror(trees.getPath(unit, tree));
    }

    private boolean isArray(Tree tree) {
        TypeMirror type = type(tree);
        return type != null && type.getKind() == TypeKind.ARRAY;
    }

    private static boolean isField(Element element) {
        return element != null && element.getKind() == ElementKind.FIELD;
    }

    /** Javac puts the call of Object's constructor into the tree itself. */
    private static boolean isSuper(MethodInvocationTree call) {
        return call.getMethodSelect().toString().equals("super") && call.getArguments().isEmpty();
    }

    private static Tree bare(Tree tree) {
        Tree inner = tree;
        while (inner instanceof ParenthesizedTree outer) {
            inner = outer.getExpression();
        }
        return inner;
    }

    private static boolean isIn(TreePath path, Kind... kinds) {
        Set<Kind> wanted = Set.of(kinds);
        for (TreePath above = path.getParentPath(); above != null; above = above.getParentPath()) {
            if (wanted.contains(above.getLeaf().getKind())) {
                return true;
            }
        }
        return false;
    }

    private void oneClass() {
        if (unit.getPackage() != null) {
            breach(unit.getPackage(), "a package line");
        }
        if (unit.getTypeDecls().size() != 1) {
            breach(unit, unit.getTypeDecls().size() + " types");
        }
        each(path -> {
            if (path.getParentPath().getLeaf() != unit) {
                breach(path.getLeaf(), "a class in the class");
            }
        }, Kind.CLASS, Kind.INTERFACE, Kind.ENUM, Kind.RECORD, Kind.ANNOTATION_TYPE);
    }

    private void types() {
        each(path -> {
            if (!isNumber(type(path.getLeaf())) && !isNumberArray(type(path.getLeaf()))) {
                breach(path.getLeaf(), "a variable of type " + type(path.getLeaf()));
            }
        }, Kind.VARIABLE);
        each(path -> {
            if (!isNumber(type(path.getLeaf()))) {
                breach(path.getLeaf(), "a cast to " + type(path.getLeaf()));
            }
        }, Kind.TYPE_CAST);
        each(path -> {
            TypeMirror answer = ((ExecutableElement) trees.getElement(path)).getReturnType();
            if (answer.getKind() != TypeKind.VOID && !isNumber(answer)) {
                breach(path.getLeaf(), "an answer of type " + answer);
            }
        }, Kind.METHOD);
        for (TreePath path : paths) {
            TypeMirror type = path.getLeaf() instanceof ExpressionTree ? trees.getTypeMirror(path) : null;
            if (type != null && (type.getKind() == TypeKind.FLOAT || type.getKind() == TypeKind.DOUBLE)) {
                breach(path.getLeaf(), "a number of type " + type);
            }
        }
    }

    private static boolean isNumber(TypeMirror type) {
        return type != null && NUMBERS.contains(type.getKind());
    }

    private static boolean isNumberArray(TypeMirror type) {
        return type instanceof ArrayType array && isNumber(array.getComponentType());
    }

    private void noLibrary() {
        for (ImportTree line : unit.getImports()) {
            breach(line, "an import");
        }
        Element own = element(unit.getTypeDecls().get(0));
        each(path -> {
            Element named = trees.getElement(path);
            boolean isType = named != null && (named.getKind().isClass() || named.getKind().isInterface());
            if (named == null || named.getKind() == ElementKind.PACKAGE || isType && !named.equals(own)) {
                breach(path.getLeaf(), "the name " + path.getLeaf());
            }
        }, Kind.IDENTIFIER);
        each(path -> {
            MethodInvocationTree call = (MethodInvocationTree) path.getLeaf();
            Element called = trees.getElement(path);
            if (!isSuper(call) && (called == null || !called.getEnclosingElement().equals(own))) {
                breach(call, "a call of " + call.getMethodSelect());
            }
        }, Kind.METHOD_INVOCATION);
    }

    private void arraysMade() {
        each(path -> {
            NewArrayTree made = (NewArrayTree) path.getLeaf();
            Tree where = path.getParentPath().getLeaf();
            if (where.getKind() != Kind.VARIABLE || !isField(element(where))) {
                breach(made, "an array that is not made in a field's initialiser");
            }
            if (made.getInitializers() != null || made.getDimensions().size() != 1 || !isLength(made.getDimensions().get(0))) {
                breach(made, "an array without a fixed length of 1 or more");
            }
        }, Kind.NEW_ARRAY);
    }

    private boolean isLength(ExpressionTree length) {
        Object value = length instanceof LiteralTree literal ? literal.getValue()
            : element(length) instanceof VariableElement named ? named.getConstantValue() : null;
        return value instanceof Integer number && number >= 1;
    }

    private void arraysCompared() {
        each(path -> {
            BinaryTree compared = (BinaryTree) path.getLeaf();
            if (isArray(compared.getLeftOperand()) || isArray(compared.getRightOperand())) {
                breach(compared, "a comparison of arrays");
            }
        }, Kind.EQUAL_TO, Kind.NOT_EQUAL_TO);
        each(path -> {
            ExpressionTree answer = ((ReturnTree) path.getLeaf()).getExpression();
            if (answer != null && isArray(answer)) {
                breach(path.getLeaf(), "an array as an answer");
            }
        }, Kind.RETURN);
    }

    private void arraysAssigned() {
        each(path -> {
            if (isArray(((AssignmentTree) path.getLeaf()).getVariable())) {
                breach(path.getLeaf(), "another array for a variable");
            }
        }, Kind.ASSIGNMENT);
        each(path -> {
            if (isArray(path.getLeaf()) && isIn(path, Kind.FOR_LOOP, Kind.WHILE_LOOP, Kind.DO_WHILE_LOOP)) {
                breach(path.getLeaf(), "a variable for an array in a loop");
            }
        }, Kind.VARIABLE);
    }

    private void arraysHanded() {
        each(path -> {
            MethodInvocationTree call = (MethodInvocationTree) path.getLeaf();
            Element called = trees.getElement(path);
            boolean inConstructor = isSuper(call) || methodAround(path).getKind() == ElementKind.CONSTRUCTOR;
            boolean isStatic = called != null && called.getModifiers().contains(Modifier.STATIC);
            if (inConstructor && !isStatic && call.getArguments().stream().anyMatch(this::isArray)) {
                breach(call, "an array handed over by the constructor");
            }
        }, Kind.METHOD_INVOCATION);
    }

    private Element methodAround(TreePath path) {
        TreePath above = path;
        while (above.getLeaf().getKind() != Kind.METHOD && above.getLeaf().getKind() != Kind.CLASS) {
            above = above.getParentPath();
        }
        return trees.getElement(above);
    }

    private void statics() {
        each(path -> {
            Element named = trees.getElement(path);
            if (isField(named) && named.getModifiers().contains(Modifier.STATIC)) {
                TypeKind kind = named.asType().getKind();
                boolean whole = kind == TypeKind.INT || kind == TypeKind.LONG;
                if (!whole || ((VariableElement) named).getConstantValue() == null) {
                    breach(path.getLeaf(), named + " is no constant of int or long");
                }
            }
        }, Kind.VARIABLE);
        each(path -> {
            if (path.getParentPath().getLeaf().getKind() == Kind.CLASS) {
                breach(path.getLeaf(), "an initialiser block");
            }
        }, Kind.BLOCK);
    }

    private void allowedKinds() {
        Set<Modifier> modifiers = EnumSet.of(Modifier.PUBLIC, Modifier.PRIVATE, Modifier.STATIC, Modifier.FINAL);
        for (TreePath path : paths) {
            Tree tree = path.getLeaf();
            if (!ALLOWED.contains(tree.getKind())) {
                breach(tree, tree.getKind().toString());
            }
            if (tree instanceof ModifiersTree given && !modifiers.containsAll(given.getFlags())) {
                breach(tree, "one of " + given.getFlags());
            }
        }
        each(path -> {
            ExpressionTree chosen = path.getLeaf() instanceof SwitchTree plain ? plain.getExpression()
                : ((SwitchExpressionTree) path.getLeaf()).getExpression();
            if (!isNumber(type(bare(chosen)))) {
                breach(path.getLeaf(), "a switch that is not on a number");
            }
        }, Kind.SWITCH, Kind.SWITCH_EXPRESSION);
    }

    private void callsEnd() {
        Map<Element, Set<Element>> calls = new LinkedHashMap<>();
        each(path -> calls.put(trees.getElement(path), new LinkedHashSet<>()), Kind.METHOD);
        each(path -> {
            Element from = methodAround(path);
            if (calls.containsKey(from) && calls.containsKey(trees.getElement(path))) {
                calls.get(from).add(trees.getElement(path));
            }
        }, Kind.METHOD_INVOCATION);
        for (Element method : calls.keySet()) {
            int deep = depth(method, calls, MOST_DEEP + 1);
            if (deep > MOST_DEEP) {
                breaches.add(method + " calls itself or more than " + MOST_DEEP + " deep");
            }
        }
    }

    /** How deep calls go, the method itself counted, as far as the end that is given: a circle goes on to the end. */
    private static int depth(Element method, Map<Element, Set<Element>> calls, int end) {
        int deepest = 0;
        if (end > 1) {
            for (Element called : calls.get(method)) {
                deepest = Math.max(deepest, depth(called, calls, end - 1));
            }
        }
        return deepest + 1;
    }

    private void loopsEnd() {
        each(path -> {
            ForLoopTree loop = (ForLoopTree) path.getLeaf();
            if (!isCounted(loop)) {
                breach(loop, "a loop that is not counted: for (int i = ..; i < ..; i++), the counter and the bound left alone in it");
            }
        }, Kind.FOR_LOOP);
        each(path -> breach(path.getLeaf(), "another loop than a counted one"),
            Kind.WHILE_LOOP, Kind.DO_WHILE_LOOP, Kind.ENHANCED_FOR_LOOP);
    }

    private boolean isCounted(ForLoopTree loop) {
        if (loop.getInitializer().size() != 1 || !(loop.getInitializer().get(0) instanceof VariableTree counter)
            || loop.getUpdate().size() != 1 || loop.getCondition() == null
            || !(bare(loop.getCondition()) instanceof BinaryTree condition)) {
            return false;
        }
        String step = loop.getUpdate().get(0).getExpression().toString();
        boolean up = step.equals(counter.getName() + "++") || step.equals("++" + counter.getName());
        boolean down = step.equals(counter.getName() + "--") || step.equals("--" + counter.getName());
        boolean less = condition.getKind() == Kind.LESS_THAN || condition.getKind() == Kind.LESS_THAN_EQUAL;
        boolean more = condition.getKind() == Kind.GREATER_THAN || condition.getKind() == Kind.GREATER_THAN_EQUAL;
        return condition.getLeftOperand().toString().equals(counter.getName().toString())
            && (up && less || down && more) && !changesIn(loop.getStatement(), namesIn(condition));
    }

    private Set<Element> namesIn(Tree tree) {
        Set<Element> names = new LinkedHashSet<>();
        each(path -> {
            if (isBelow(path, tree)) {
                names.add(trees.getElement(path));
            }
        }, Kind.IDENTIFIER);
        return names;
    }

    private static boolean isBelow(TreePath path, Tree tree) {
        for (Tree above : path) {
            if (above == tree) {
                return true;
            }
        }
        return false;
    }

    private boolean changesIn(Tree body, Set<Element> names) {
        for (TreePath path : paths) {
            Tree changed = changedBy(path.getLeaf());
            if (changed != null && isBelow(path, body) && names.contains(element(changed))) {
                return true;
            }
        }
        return false;
    }

    /** The variable that this tree gives another value, or the array whose cell it does. */
    private static Tree changedBy(Tree tree) {
        Tree changed = tree instanceof AssignmentTree plain ? plain.getVariable()
            : tree instanceof CompoundAssignmentTree compound ? compound.getVariable()
            : tree instanceof UnaryTree unary && isStep(unary.getKind()) ? unary.getExpression() : null;
        Tree inner = bare(changed);
        return inner instanceof ArrayAccessTree cell ? bare(cell.getExpression()) : inner;
    }

    private static boolean isStep(Kind kind) {
        return EnumSet.of(Kind.POSTFIX_INCREMENT, Kind.POSTFIX_DECREMENT, Kind.PREFIX_INCREMENT, Kind.PREFIX_DECREMENT).contains(kind);
    }

    private void methodsShort() {
        LineMap lines = unit.getLineMap();
        each(path -> {
            MethodTree method = (MethodTree) path.getLeaf();
            long first = lines.getLineNumber(trees.getSourcePositions().getStartPosition(unit, method));
            long last = lines.getLineNumber(trees.getSourcePositions().getEndPosition(unit, method));
            if (last - first + 1 > MOST_LINES) {
                breach(method, (last - first + 1) + " lines");
            }
            if (method.getParameters().size() > MOST_PARAMETERS) {
                breach(method, method.getParameters().size() + " parameters");
            }
        }, Kind.METHOD);
    }

    private void callsInArguments() {
        each(path -> {
            TreePath below = path;
            for (TreePath above = path.getParentPath(); above != null; above = above.getParentPath()) {
                if (above.getLeaf() instanceof MethodInvocationTree outer && outer.getArguments().contains(below.getLeaf())) {
                    breach(path.getLeaf(), path.getLeaf() + " inside of " + outer);
                }
                below = above;
            }
        }, Kind.METHOD_INVOCATION);
    }
}
