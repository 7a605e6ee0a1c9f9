import com.sun.source.tree.ArrayTypeTree;
import com.sun.source.tree.BlockTree;
import com.sun.source.tree.ClassTree;
import com.sun.source.tree.CompilationUnitTree;
import com.sun.source.tree.ExpressionTree;
import com.sun.source.tree.ForLoopTree;
import com.sun.source.tree.IdentifierTree;
import com.sun.source.tree.MemberSelectTree;
import com.sun.source.tree.MethodInvocationTree;
import com.sun.source.tree.MethodTree;
import com.sun.source.tree.NewArrayTree;
import com.sun.source.tree.PrimitiveTypeTree;
import com.sun.source.tree.Tree;
import com.sun.source.tree.Tree.Kind;
import com.sun.source.tree.TypeCastTree;
import com.sun.source.tree.VariableTree;
import com.sun.source.util.JavacTask;
import com.sun.source.util.SourcePositions;
import com.sun.source.util.TreeScanner;
import com.sun.source.util.Trees;
import java.io.IOException;
import java.nio.file.Path;
import java.util.ArrayList;
import java.util.EnumSet;
import java.util.List;
import java.util.Map;
import java.util.Set;
import java.util.TreeMap;
import java.util.TreeSet;
import javax.lang.model.element.Modifier;
import javax.lang.model.type.TypeKind;
import javax.tools.JavaCompiler;
import javax.tools.StandardJavaFileManager;
import javax.tools.ToolProvider;

/**
 * What can be seen of the rules of LANGUAGE.md in the tree of the source. Not seen here: that no
 * call can throw (7) and that each loop's counter meets its bound (8); those are read by eye.
 */
public final class LanguageTest extends TreeScanner<Void, Void> {
    private static final Path MAIN = Path.of("src/main/java/StreamWatcher.java");
    private static final int MOST_LINES = 60;
    private static final int MOST_DEEP = 6;
    private static final int MOST_FIELDS = 40;

    private static final Set<Kind> OUTSIDE = EnumSet.of(
        Kind.IMPORT, Kind.PACKAGE, Kind.INTERFACE, Kind.ENUM, Kind.RECORD, Kind.ANNOTATION,
        Kind.STRING_LITERAL, Kind.NULL_LITERAL, Kind.FLOAT_LITERAL, Kind.DOUBLE_LITERAL,
        Kind.NEW_CLASS, Kind.PARAMETERIZED_TYPE, Kind.THROW, Kind.TRY, Kind.CATCH,
        Kind.SYNCHRONIZED, Kind.ASSERT, Kind.INSTANCE_OF, Kind.LAMBDA_EXPRESSION,
        Kind.MEMBER_REFERENCE);

    // The rules let these stand, but their bound is not in one place; a for loop's is.
    private static final Set<Kind> HARD_TO_SEE = EnumSet.of(
        Kind.WHILE_LOOP, Kind.DO_WHILE_LOOP, Kind.ENHANCED_FOR_LOOP);

    private static final Checks checks = new Checks();

    private final CompilationUnitTree unit;
    private final SourcePositions positions;
    private final Map<String, Set<String>> calls = new TreeMap<>();
    private String method = "";
    private int fields = 0;

    private LanguageTest(CompilationUnitTree unit, SourcePositions positions) {
        this.unit = unit;
        this.positions = positions;
    }

    public static void main(String[] args) throws IOException {
        JavaCompiler compiler = ToolProvider.getSystemJavaCompiler();
        try (StandardJavaFileManager files = compiler.getStandardFileManager(null, null, null)) {
            JavacTask task = (JavacTask) compiler.getTask(
                null, files, null, null, null, files.getJavaFileObjects(MAIN));
            for (CompilationUnitTree unit : task.parse()) {
                new LanguageTest(unit, Trees.instance(task).getSourcePositions()).run();
            }
        }
        checks.end();
    }

    private void run() {
        checks.due("rule 1: classes in the file", unit.getTypeDecls().size(), 1);
        scan(unit, null);
        checks.holds("rule 10: at most some forty fields, there are " + fields, fields <= MOST_FIELDS);
        for (String name : calls.keySet()) {
            checks.holds("rules 8 and 10: calls from " + name + " go at most six deep and not round",
                depth(name, new ArrayList<>()) <= MOST_DEEP);
        }
    }

    /** The number of methods on the longest way of calls from this one; far too many if it goes round. */
    private int depth(String name, List<String> way) {
        if (way.contains(name)) {
            return MOST_DEEP * 1000;
        }
        way.add(name);
        int deepest = 0;
        for (String called : calls.getOrDefault(name, Set.of())) {
            deepest = Math.max(deepest, depth(called, way));
        }
        way.remove(name);
        return deepest + 1;
    }

    private long line(Tree tree) {
        return unit.getLineMap().getLineNumber(positions.getStartPosition(unit, tree));
    }

    private void holds(int rule, Tree tree, String what, boolean truth) {
        checks.holds("rule " + rule + ", line " + line(tree) + ": " + what, truth);
    }

    @Override
    public Void scan(Tree tree, Void none) {
        if (tree != null && OUTSIDE.contains(tree.getKind())) {
            checks.holds("rules 1 to 6, line " + line(tree) + ": no " + tree.getKind(), false);
        }
        if (tree != null && HARD_TO_SEE.contains(tree.getKind())) {
            holds(8, tree, "loops are counted for loops", false);
        }
        return super.scan(tree, none);
    }

    @Override
    public Void visitForLoop(ForLoopTree tree, Void none) {
        holds(8, tree, "a loop has a counter, a bound and a step",
            tree.getInitializer().size() == 1 && tree.getCondition() != null && tree.getUpdate().size() == 1);
        return super.visitForLoop(tree, none);
    }

    @Override
    public Void visitTypeCast(TypeCastTree tree, Void none) {
        holds(6, tree, "casts are to number types", tree.getType() instanceof PrimitiveTypeTree);
        return super.visitTypeCast(tree, none);
    }

    @Override
    public Void visitClass(ClassTree tree, Void none) {
        for (Tree member : tree.getMembers()) {
            if (member instanceof VariableTree field) {
                field(field);
            } else if (member instanceof BlockTree || member instanceof ClassTree) {
                holds(member instanceof ClassTree ? 1 : 5, member, "only fields and methods", false);
            }
        }
        return super.visitClass(tree, none);
    }

    private void field(VariableTree field) {
        Set<Modifier> modifiers = field.getModifiers().getFlags();
        if (modifiers.contains(Modifier.STATIC)) {
            holds(5, field, "a static field is a final int or long with a value",
                modifiers.contains(Modifier.FINAL) && isNumber(field.getType()) && field.getInitializer() != null);
            return;
        }
        fields++;
        if (field.getType().getKind() == Kind.ARRAY_TYPE) {
            holds(4, field, "an array field is final and made where it is declared",
                modifiers.contains(Modifier.FINAL) && field.getInitializer() instanceof NewArrayTree);
        }
    }

    private static boolean isNumber(Tree type) {
        return type instanceof PrimitiveTypeTree number
            && (number.getPrimitiveTypeKind() == TypeKind.INT || number.getPrimitiveTypeKind() == TypeKind.LONG);
    }

    @Override
    public Void visitMethod(MethodTree tree, Void none) {
        method = tree.getName().toString();
        checks.holds("each method has a name of its own: " + method, calls.put(method, new TreeSet<>()) == null);
        holds(10, tree, "at most seven parameters", tree.getParameters().size() <= 7);
        long last = unit.getLineMap().getLineNumber(positions.getEndPosition(unit, tree));
        holds(10, tree, "at most some sixty lines", last - line(tree) < MOST_LINES);
        if (tree.getReturnType() != null) {
            holds(4, tree, "no array is answered", tree.getReturnType() instanceof PrimitiveTypeTree);
        }
        super.visitMethod(tree, none);
        method = "";
        return null;
    }

    @Override
    public Void visitVariable(VariableTree tree, Void none) {
        Tree type = tree.getType();
        if (type instanceof ArrayTypeTree array) {
            type = array.getType();
        }
        holds(2, tree, "a number, a boolean or an array of these: " + tree.getName(), type instanceof PrimitiveTypeTree);
        return super.visitVariable(tree, none);
    }

    @Override
    public Void visitPrimitiveType(PrimitiveTypeTree tree, Void none) {
        holds(2, tree, "no float or double",
            tree.getPrimitiveTypeKind() != TypeKind.FLOAT && tree.getPrimitiveTypeKind() != TypeKind.DOUBLE);
        return super.visitPrimitiveType(tree, none);
    }

    @Override
    public Void visitNewArray(NewArrayTree tree, Void none) {
        holds(4, tree, "arrays are made in fields' initialisers", method.isEmpty());
        boolean simple = tree.getInitializers() == null && tree.getDimensions().size() == 1;
        holds(4, tree, "an array has one dimension, and a length", simple);
        if (simple) {
            Kind length = tree.getDimensions().get(0).getKind();
            holds(4, tree, "the length is a literal or a constant", length == Kind.INT_LITERAL || length == Kind.IDENTIFIER);
        }
        return super.visitNewArray(tree, none);
    }

    /** Without a dot no class of the library and no method of another object can be reached. */
    @Override
    public Void visitMemberSelect(MemberSelectTree tree, Void none) {
        holds(3, tree, "no member of anything: " + tree, false);
        return super.visitMemberSelect(tree, none);
    }

    @Override
    public Void visitMethodInvocation(MethodInvocationTree tree, Void none) {
        boolean plain = tree.getMethodSelect() instanceof IdentifierTree;
        holds(3, tree, "only the class's own methods are called", plain && isOwn(tree.getMethodSelect().toString()));
        if (plain && !method.isEmpty()) {
            calls.get(method).add(tree.getMethodSelect().toString());
        }
        for (ExpressionTree argument : tree.getArguments()) {
            holds(10, tree, "no call inside the arguments of a call", !hasCall(argument));
        }
        return super.visitMethodInvocation(tree, none);
    }

    private boolean isOwn(String name) {
        for (Tree member : ((ClassTree) unit.getTypeDecls().get(0)).getMembers()) {
            if (member instanceof MethodTree own && own.getName().contentEquals(name)) {
                return true;
            }
        }
        return false;
    }

    private static boolean hasCall(Tree tree) {
        boolean[] found = {false};
        new TreeScanner<Void, Void>() {
            @Override
            public Void visitMethodInvocation(MethodInvocationTree call, Void none) {
                found[0] = true;
                return null;
            }
        }.scan(tree, null);
        return found[0];
    }
}
