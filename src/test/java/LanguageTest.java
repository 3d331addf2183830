import com.sun.source.tree.ArrayTypeTree;
import com.sun.source.tree.ClassTree;
import com.sun.source.tree.CompilationUnitTree;
import com.sun.source.tree.ExpressionTree;
import com.sun.source.tree.IdentifierTree;
import com.sun.source.tree.MemberSelectTree;
import com.sun.source.tree.MethodInvocationTree;
import com.sun.source.tree.MethodTree;
import com.sun.source.tree.NewArrayTree;
import com.sun.source.tree.PrimitiveTypeTree;
import com.sun.source.tree.Tree;
import com.sun.source.tree.Tree.Kind;
import com.sun.source.tree.VariableTree;
import com.sun.source.util.JavacTask;
import com.sun.source.util.SourcePositions;
import com.sun.source.util.TreeScanner;
import java.nio.file.Path;
import java.util.EnumSet;
import java.util.HashMap;
import java.util.Map;
import java.util.Set;
import java.util.TreeSet;
import javax.lang.model.element.Modifier;
import javax.lang.model.type.TypeKind;
import javax.tools.JavaCompiler;
import javax.tools.StandardJavaFileManager;
import javax.tools.ToolProvider;

/** The rules of LANGUAGE.md that show in the source of the class; those on its members are in FaceTest. */
public final class LanguageTest extends TreeScanner<Void, Void> {
    private static final Path SOURCE = Path.of("src", "main", "java", "LeftCorner.java");
    private static final String CONSTRUCTOR = "<init>";
    private static final int MOST_LINES = 60;
    private static final int MOST_DEEP = 6;

    private static final Set<Kind> WRONG_KINDS = EnumSet.of(
        Kind.IMPORT, Kind.PACKAGE, Kind.INTERFACE, Kind.ENUM, Kind.RECORD, Kind.ANNOTATION_TYPE, Kind.NEW_CLASS,
        Kind.PARAMETERIZED_TYPE, Kind.STRING_LITERAL, Kind.NULL_LITERAL, Kind.FLOAT_LITERAL, Kind.DOUBLE_LITERAL,
        Kind.THROW, Kind.TRY, Kind.CATCH, Kind.SYNCHRONIZED, Kind.ASSERT, Kind.INSTANCE_OF, Kind.LAMBDA_EXPRESSION,
        Kind.MEMBER_REFERENCE);
    private static final Set<TypeKind> WRONG_TYPES = EnumSet.of(TypeKind.FLOAT, TypeKind.DOUBLE);

    private final CompilationUnitTree file;
    private final SourcePositions positions;
    private final Map<String, Set<String>> calls = new HashMap<>();
    private final Set<String> constants = new TreeSet<>();
    private int classes = 0;
    private String method = "";

    private LanguageTest(CompilationUnitTree file, SourcePositions positions) {
        this.file = file;
        this.positions = positions;
    }

    public static void main(String[] args) throws Exception {
        JavaCompiler compiler = ToolProvider.getSystemJavaCompiler();
        try (StandardJavaFileManager files = compiler.getStandardFileManager(null, null, null)) {
            JavacTask task = (JavacTask) compiler.getTask(null, files, null, null, null, files.getJavaFileObjects(SOURCE));
            for (CompilationUnitTree file : task.parse()) {
                SourcePositions positions = com.sun.source.util.Trees.instance(task).getSourcePositions();
                LanguageTest test = new LanguageTest(file, positions);
                test.scan(file, null);
                Check.due("rule 1: classes", test.classes, 1);
                test.callsEnd();
            }
        }
        Check.finish();
    }

    private void due(int rule, String what, Tree tree, boolean holds) {
        due("rule " + rule, what, tree, holds);
    }

    private void due(String rules, String what, Tree tree, boolean holds) {
        Check.due(rules + ": " + what + " at line " + line(positions.getStartPosition(file, tree)), holds, true);
    }

    private long line(long position) {
        return file.getLineMap().getLineNumber(Math.max(position, 0));
    }

    @Override
    public Void scan(Tree tree, Void nothing) {
        if (tree != null) {
            due("rules 1 to 6", tree.getKind() + " is in the language", tree, !WRONG_KINDS.contains(tree.getKind()));
        }
        return super.scan(tree, nothing);
    }

    @Override
    public Void visitClass(ClassTree tree, Void nothing) {
        classes++;
        for (Tree member : tree.getMembers()) {
            due(5, "no initialiser block", member, member.getKind() != Kind.BLOCK);
            if (member instanceof VariableTree field && field.getModifiers().getFlags().contains(Modifier.STATIC)) {
                constants.add(field.getName().toString());
            }
        }
        return super.visitClass(tree, nothing);
    }

    @Override
    public Void visitVariable(VariableTree tree, Void nothing) {
        Tree type = tree.getType() instanceof ArrayTypeTree array ? array.getType() : tree.getType();
        due(2, tree.getName() + " is a number, a boolean or a row of them", tree, type instanceof PrimitiveTypeTree);
        return super.visitVariable(tree, nothing);
    }

    @Override
    public Void visitPrimitiveType(PrimitiveTypeTree tree, Void nothing) {
        due(2, "no float or double", tree, !WRONG_TYPES.contains(tree.getPrimitiveTypeKind()));
        return super.visitPrimitiveType(tree, nothing);
    }

    @Override
    public Void visitNewArray(NewArrayTree tree, Void nothing) {
        due(4, "an array is made at the start", tree, method.isEmpty() || method.equals(CONSTRUCTOR));
        due(4, "one length", tree, tree.getDimensions().size() == 1);
        for (ExpressionTree length : tree.getDimensions()) {
            due(4, length + " is a literal or a constant", tree,
                length.getKind() == Kind.INT_LITERAL || constants.contains(length.toString()));
        }
        return super.visitNewArray(tree, nothing);
    }

    @Override
    public Void visitMemberSelect(MemberSelectTree tree, Void nothing) {
        boolean own = tree.getExpression().toString().equals("this") || tree.getIdentifier().contentEquals("length");
        due(3, tree + " is of the class itself", tree, own);
        return super.visitMemberSelect(tree, nothing);
    }

    @Override
    public Void visitMethod(MethodTree tree, Void nothing) {
        String name = tree.getName().toString();
        long lines = line(positions.getEndPosition(file, tree)) - line(positions.getStartPosition(file, tree)) + 1;
        due(10, name + " is short", tree, lines <= MOST_LINES);
        due(10, name + " has at most seven parameters", tree, tree.getParameters().size() <= 7);
        Tree answer = tree.getReturnType();
        due(4, name + " answers no array", tree, answer == null || answer instanceof PrimitiveTypeTree);
        // The calls below are told apart by name alone.
        due(10, name + " is the only method of that name", tree, !calls.containsKey(name));
        calls.put(name, new TreeSet<>());
        method = name;
        super.visitMethod(tree, nothing);
        method = "";
        return null;
    }

    @Override
    public Void visitMethodInvocation(MethodInvocationTree tree, Void nothing) {
        due(3, tree + " is called by its plain name", tree, tree.getMethodSelect() instanceof IdentifierTree);
        if (calls.containsKey(method)) {
            calls.get(method).add(tree.getMethodSelect().toString());
        }
        for (ExpressionTree argument : tree.getArguments()) {
            due(10, "no call inside the arguments of " + tree, tree, !holdsCall(argument));
        }
        return super.visitMethodInvocation(tree, nothing);
    }

    private static boolean holdsCall(Tree argument) {
        boolean[] found = {false};
        new TreeScanner<Void, Void>() {
            @Override
            public Void visitMethodInvocation(MethodInvocationTree tree, Void nothing) {
                found[0] = true;
                return super.visitMethodInvocation(tree, nothing);
            }
        }.scan(argument, null);
        return found[0];
    }

    /** Calls that come back to a method already on the way would never bottom out, so these are too deep as well. */
    private void callsEnd() {
        for (String name : calls.keySet()) {
            Check.due("rule 3: " + name + " calls methods of the class alone",
                calls.keySet().containsAll(calls.get(name)), true);
            Check.due("rule 8 and 10: calls from " + name + " go at most six deep, the first one counted",
                depth(name, MOST_DEEP) <= MOST_DEEP, true);
        }
    }

    private int depth(String name, int most) {
        int deepest = 0;
        for (String called : calls.getOrDefault(name, Set.of())) {
            deepest = most == 0 ? 1 : Math.max(deepest, depth(called, most - 1));
        }
        return deepest + 1;
    }
}
