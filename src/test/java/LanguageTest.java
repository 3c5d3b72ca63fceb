import com.sun.source.tree.ArrayTypeTree;
import com.sun.source.tree.BlockTree;
import com.sun.source.tree.ClassTree;
import com.sun.source.tree.CompilationUnitTree;
import com.sun.source.tree.ExpressionTree;
import com.sun.source.tree.ForLoopTree;
import com.sun.source.tree.IdentifierTree;
import com.sun.source.tree.LineMap;
import com.sun.source.tree.LiteralTree;
import com.sun.source.tree.MethodInvocationTree;
import com.sun.source.tree.MethodTree;
import com.sun.source.tree.NewArrayTree;
import com.sun.source.tree.PrimitiveTypeTree;
import com.sun.source.tree.Tree;
import com.sun.source.tree.TypeCastTree;
import com.sun.source.tree.VariableTree;
import com.sun.source.util.JavacTask;
import com.sun.source.util.SourcePositions;
import com.sun.source.util.TreeScanner;
import com.sun.source.util.Trees;
import java.io.File;
import java.io.IOException;
import java.util.ArrayList;
import java.util.EnumSet;
import java.util.HashMap;
import java.util.List;
import java.util.Map;
import java.util.Set;
import java.util.TreeSet;
import javax.lang.model.element.Modifier;
import javax.lang.model.type.TypeKind;
import javax.tools.JavaCompiler;
import javax.tools.StandardJavaFileManager;
import javax.tools.ToolProvider;

/** The rules of LANGUAGE.md that can be seen in the class's source, as the compiler reads it. */
public final class LanguageTest {
    private static final File SOURCE = new File("src/main/java/IntruderSearch.java");

    // The rules allow more loops than this and a selected member such as an array's length. The class needs
    // none of them, and without them a loop's counter and another class's member are seen at once.
    private static final Set<Tree.Kind> FORBIDDEN = EnumSet.of(Tree.Kind.THROW, Tree.Kind.TRY,
        Tree.Kind.SYNCHRONIZED, Tree.Kind.ASSERT, Tree.Kind.INSTANCE_OF, Tree.Kind.LAMBDA_EXPRESSION,
        Tree.Kind.MEMBER_REFERENCE, Tree.Kind.NEW_CLASS, Tree.Kind.MEMBER_SELECT, Tree.Kind.STRING_LITERAL,
        Tree.Kind.NULL_LITERAL, Tree.Kind.FLOAT_LITERAL, Tree.Kind.DOUBLE_LITERAL, Tree.Kind.ENHANCED_FOR_LOOP,
        Tree.Kind.WHILE_LOOP, Tree.Kind.DO_WHILE_LOOP, Tree.Kind.ANNOTATION);

    private static final Set<TypeKind> ALLOWED = EnumSet.of(TypeKind.INT, TypeKind.LONG, TypeKind.SHORT,
        TypeKind.BYTE, TypeKind.CHAR, TypeKind.BOOLEAN, TypeKind.VOID);

    private static final Map<String, Set<String>> CALLS = new HashMap<>();
    private static final Set<String> CONSTANTS = new TreeSet<>();

    public static void main(String[] args) throws IOException {
        JavaCompiler compiler = ToolProvider.getSystemJavaCompiler();
        try (StandardJavaFileManager files = compiler.getStandardFileManager(null, null, null)) {
            JavacTask task = (JavacTask) compiler.getTask(null, files, null, null, null,
                files.getJavaFileObjects(SOURCE));
            SourcePositions positions = Trees.instance(task).getSourcePositions();
            List<CompilationUnitTree> units = new ArrayList<>();
            task.parse().forEach(units::add);
            Check.due("files", units.size(), 1);
            oneFile(units.get(0), positions);
        }
        callsEnd();
        Check.end();
    }

    private static void oneFile(CompilationUnitTree unit, SourcePositions positions) {
        Check.sentence("Rule 1: one class in one file, without a package line; rule 3: nothing is imported");
        Check.due("package line", unit.getPackage() != null, false);
        Check.due("imports", unit.getImports().size(), 0);
        Check.due("classes", unit.getTypeDecls().size(), 1);
        ClassTree face = (ClassTree) unit.getTypeDecls().get(0);
        for (Tree member : face.getMembers()) {
            if (member instanceof VariableTree) {
                field((VariableTree) member);
            } else if (member instanceof MethodTree) {
                CALLS.put(((MethodTree) member).getName().toString(), new TreeSet<>());
            } else {
                Check.sentence("Rule 1: no nested class; rule 5: no static initialiser");
                Check.same("member", member.getKind().toString(), "a field or a method");
            }
        }
        for (Tree member : face.getMembers()) {
            if (member instanceof MethodTree) {
                method((MethodTree) member, unit, positions);
            }
        }
    }

    private static void field(VariableTree field) {
        String name = field.getName().toString();
        Set<Modifier> modifiers = field.getModifiers().getFlags();
        type(name, field.getType());
        if (modifiers.contains(Modifier.STATIC)) {
            Check.sentence("Rule 5: static fields are compile-time constants of int or long alone");
            Check.due(name + " is final", modifiers.contains(Modifier.FINAL), true);
            Check.due(name + " is an array", field.getType() instanceof ArrayTypeTree, false);
            CONSTANTS.add(name);
        }
        ExpressionTree first = field.getInitializer();
        if (field.getType() instanceof ArrayTypeTree) {
            Check.sentence("Rule 4: an array's length is a literal or a constant; no method assigns to its field");
            Check.due(name + " is final", modifiers.contains(Modifier.FINAL), true);
            Check.due(name + " is made in its initialiser", first instanceof NewArrayTree, true);
            List<? extends ExpressionTree> lengths = ((NewArrayTree) first).getDimensions();
            Check.due("dimensions of " + name, lengths.size(), 1);
            ExpressionTree length = lengths.get(0);
            boolean fixed = length instanceof LiteralTree || CONSTANTS.contains(length.toString());
            Check.due("length of " + name + " is fixed", fixed, true);
        } else if (first != null) {
            new Scan(name).scan(first, null);
        }
    }

    private static void type(String of, Tree type) {
        Check.sentence("Rule 2: int, long, short, byte, char, boolean, and one-dimensional arrays of these");
        Tree inner = type instanceof ArrayTypeTree ? ((ArrayTypeTree) type).getType() : type;
        boolean allowed = inner instanceof PrimitiveTypeTree
            && ALLOWED.contains(((PrimitiveTypeTree) inner).getPrimitiveTypeKind());
        Check.due("type of " + of + " is allowed: " + type, allowed, true);
    }

    private static void method(MethodTree method, CompilationUnitTree unit, SourcePositions positions) {
        String name = method.getName().toString();
        if (method.getReturnType() != null) {
            type(name, method.getReturnType());
            Check.sentence("Rule 4: an array is never answered by a method");
            Check.due(name + " answers an array", method.getReturnType() instanceof ArrayTypeTree, false);
        }
        Check.sentence("Rule 10: at most seven parameters, some sixty lines");
        Check.due("parameters of " + name, method.getParameters().size() <= 7, true);
        LineMap lines = unit.getLineMap();
        long first = lines.getLineNumber(positions.getStartPosition(unit, method));
        long last = lines.getLineNumber(positions.getEndPosition(unit, method));
        Check.due(name + " is short", last - first < 60, true);
        new Scan(name).scan(method.getParameters(), null);
        BlockTree body = method.getBody();
        new Scan(name).scan(body, null);
    }

    /** Looks at every part of a method's body or of a field's initialiser. */
    private static final class Scan extends TreeScanner<Void, Void> {
        private final String within;

        private Scan(String within) {
            this.within = within;
        }

        @Override
        public Void scan(Tree tree, Void nothing) {
            if (tree != null) {
                Check.sentence("Rules 2, 3, 4, 6 and 8: what the class must not have");
                Check.due(within + " has " + tree.getKind(), FORBIDDEN.contains(tree.getKind()), false);
            }
            return super.scan(tree, nothing);
        }

        @Override
        public Void visitVariable(VariableTree variable, Void nothing) {
            type(variable.getName() + " in " + within, variable.getType());
            return super.visitVariable(variable, nothing);
        }

        @Override
        public Void visitNewArray(NewArrayTree made, Void nothing) {
            Check.sentence("Rule 4: a method makes no array");
            Check.due(within + " makes an array", true, false);
            return super.visitNewArray(made, nothing);
        }

        @Override
        public Void visitTypeCast(TypeCastTree cast, Void nothing) {
            type("a cast in " + within, cast.getType());
            return super.visitTypeCast(cast, nothing);
        }

        @Override
        public Void visitForLoop(ForLoopTree loop, Void nothing) {
            Check.sentence("Rule 8: every loop has an end that can be seen from its own lines");
            Check.due("loop in " + within + " has a bound", loop.getCondition() != null, true);
            Check.due("loop in " + within + " has a counter", loop.getInitializer().size(), 1);
            Check.due("loop in " + within + " counts", loop.getUpdate().size(), 1);
            return super.visitForLoop(loop, nothing);
        }

        @Override
        public Void visitMethodInvocation(MethodInvocationTree call, Void nothing) {
            Check.sentence("Rule 3: no method of another class; rule 10: no call inside the arguments of another");
            String callee = call.getMethodSelect().toString();
            boolean own = call.getMethodSelect() instanceof IdentifierTree
                && (CALLS.containsKey(callee) || callee.equals("super"));
            Check.due(within + " calls its own class: " + callee, own, true);
            if (CALLS.containsKey(callee)) {
                CALLS.get(within).add(callee);
            }
            for (ExpressionTree argument : call.getArguments()) {
                argument.accept(new TreeScanner<Void, Void>() {
                    @Override
                    public Void visitMethodInvocation(MethodInvocationTree inner, Void none) {
                        Check.due(within + " has a call among a call's arguments: " + call, true, false);
                        return null;
                    }
                }, null);
            }
            return super.visitMethodInvocation(call, nothing);
        }
    }

    private static void callsEnd() {
        Check.sentence("Rule 8: no recursion; rule 10: calls go at most six deep");
        for (String name : CALLS.keySet()) {
            Check.due("calls from " + name + " go at most six deep", depth(name, 0) <= 6, true);
        }
    }

    /** How many methods the longest chain of calls has; a chain that never ends is cut off at seven. */
    private static int depth(String name, int above) {
        int deepest = 0;
        for (String callee : CALLS.get(name)) {
            deepest = above < 7 ? Math.max(deepest, depth(callee, above + 1)) : 7;
        }
        return 1 + deepest;
    }
}
