import com.sun.source.tree.AssertTree;
import com.sun.source.tree.AssignmentTree;
import com.sun.source.tree.BinaryTree;
import com.sun.source.tree.ClassTree;
import com.sun.source.tree.CompilationUnitTree;
import com.sun.source.tree.CompoundAssignmentTree;
import com.sun.source.tree.DoWhileLoopTree;
import com.sun.source.tree.ExpressionTree;
import com.sun.source.tree.ForLoopTree;
import com.sun.source.tree.ImportTree;
import com.sun.source.tree.InstanceOfTree;
import com.sun.source.tree.LambdaExpressionTree;
import com.sun.source.tree.LiteralTree;
import com.sun.source.tree.MemberReferenceTree;
import com.sun.source.tree.MethodInvocationTree;
import com.sun.source.tree.MethodTree;
import com.sun.source.tree.NewArrayTree;
import com.sun.source.tree.NewClassTree;
import com.sun.source.tree.SwitchExpressionTree;
import com.sun.source.tree.SynchronizedTree;
import com.sun.source.tree.ThrowTree;
import com.sun.source.tree.Tree;
import com.sun.source.tree.TryTree;
import com.sun.source.tree.TypeCastTree;
import com.sun.source.tree.VariableTree;
import com.sun.source.tree.WhileLoopTree;
import com.sun.source.util.JavacTask;
import com.sun.source.util.TreePathScanner;
import com.sun.source.util.Trees;
import java.nio.file.Files;
import java.nio.file.Path;
import java.util.List;
import java.util.Set;
import java.util.TreeSet;
import javax.lang.model.element.Element;
import javax.lang.model.element.ElementKind;
import javax.lang.model.element.ExecutableElement;
import javax.lang.model.element.Modifier;
import javax.lang.model.type.TypeKind;
import javax.lang.model.type.TypeMirror;
import javax.tools.JavaCompiler;
import javax.tools.StandardJavaFileManager;
import javax.tools.ToolProvider;

/**
 * What of LANGUAGE.md can be seen in the source, as the compiler reads it; run from the project's folder. Rule 1 is
 * looked at by FaceTest, too; rule 7 by the tests that give wrong inputs; rule 13 by the list of what may be called.
 */
public final class LanguageTest extends TreePathScanner<Void, Void> {
    private static final Path SOURCE = Path.of("src/main/java/ChainsHold.java");
    /** Of the library that rule 4 lists, what the class needs: another one must be looked up there first. */
    private static final Set<String> MAY_CALL = Set.of("java.lang.Math.max", "java.lang.Math.min",
        "java.lang.Integer.bitCount", "java.lang.Integer.numberOfTrailingZeros", "java.lang.System.arraycopy",
        "java.util.Arrays.fill", "java.lang.Object.<init>");
    private static final Set<TypeKind> NUMBERS = Set.of(TypeKind.BOOLEAN, TypeKind.BYTE, TypeKind.SHORT, TypeKind.INT,
        TypeKind.LONG, TypeKind.CHAR);
    private static final int MOST_CLASSES = 12, MOST_FIELDS = 20, MOST_PARAMETERS = 7, MOST_LINES = 60;

    private final Check check = new Check("LANGUAGE.md, rule ");
    private final Trees trees;
    private final CompilationUnitTree unit;
    private final CallDepth calls = new CallDepth();
    private final Set<String> own = new TreeSet<>();
    private Element method;
    private int loops;

    private LanguageTest(Trees trees, CompilationUnitTree unit) {
        this.trees = trees;
        this.unit = unit;
    }

    public static void main(String[] args) throws Exception {
        Path source = args.length > 0 ? Path.of(args[0]) : SOURCE;
        JavaCompiler compiler = ToolProvider.getSystemJavaCompiler();
        try (StandardJavaFileManager files = compiler.getStandardFileManager(null, null, null)) {
            JavacTask task = (JavacTask) compiler.getTask(null, files, null, List.of("-proc:none", "--release", "17"), null,
                files.getJavaFileObjects(source));
            CompilationUnitTree unit = task.parse().iterator().next();
            task.analyze();
            LanguageTest test = new LanguageTest(Trees.instance(task), unit);
            test.lookAtText(Files.readString(source));
            test.lookAtWhole();
            test.check.end("LanguageTest");
        }
    }

    private void allow(int rule, Tree at, String what, boolean allowed) {
        check.promise(rule);
        check.due("line " + lineOf(at) + ": " + what, allowed ? 1 : 0, 1);
    }

    private long lineOf(Tree at) {
        return unit.getLineMap().getLineNumber(trees.getSourcePositions().getStartPosition(unit, at));
    }

    private long lastLineOf(Tree at) {
        return unit.getLineMap().getLineNumber(trees.getSourcePositions().getEndPosition(unit, at));
    }

    private Element elementHere() {
        return trees.getElement(getCurrentPath());
    }

    private TypeMirror typeOf(Tree tree) {
        return trees.getTypeMirror(trees.getPath(unit, tree));
    }

    private void lookAtText(String source) {
        check.promise(4);
        for (int i = 0; i < source.length(); i++) {
            char sign = source.charAt(i);
            if (sign > 127) {
                check.due("sign " + (int) sign + " at place " + i, sign, 127);
            }
        }
    }

    private void lookAtWhole() {
        check.promise(1);
        check.due("a package line", unit.getPackageName() == null ? 0 : 1, 0);
        check.due("classes beside the public one", unit.getTypeDecls().size(), 1);
        scan(unit, null);
        check.promise(11);
        check.due("classes in the file, at most " + MOST_CLASSES, own.size() <= MOST_CLASSES ? 1 : 0, 1);
        check.due("loops were seen", loops > 0 ? 1 : 0, 1);
        calls.lookAt(check);
    }

    // ---- classes, fields, methods

    @Override
    public Void visitImport(ImportTree tree, Void nothing) {
        allow(4, tree, tree.toString().strip(), tree.getQualifiedIdentifier().toString().equals("java.util.Arrays"));
        return super.visitImport(tree, nothing);
    }

    @Override
    public Void visitClass(ClassTree tree, Void nothing) {
        own.add(tree.getSimpleName().toString());
        Element e = elementHere();
        boolean inside = e.getEnclosingElement().getKind() == ElementKind.CLASS;
        Set<Modifier> modifiers = e.getModifiers();
        allow(2, tree, tree.getSimpleName() + " is a static class inside, or the public one", inside
            ? modifiers.contains(Modifier.STATIC) && !modifiers.contains(Modifier.PUBLIC)
                && !modifiers.contains(Modifier.PROTECTED)
            : modifiers.contains(Modifier.PUBLIC) && modifiers.contains(Modifier.FINAL));
        int fields = 0;
        for (Tree member : tree.getMembers()) {
            allow(5, member, "no initialiser block", member.getKind() != Tree.Kind.BLOCK);
            if (member instanceof VariableTree field && !field.getModifiers().getFlags().contains(Modifier.STATIC)) {
                fields++;
            }
        }
        allow(11, tree, tree.getSimpleName() + " has " + fields + " fields", fields <= MOST_FIELDS);
        return super.visitClass(tree, nothing);
    }

    @Override
    public Void visitMethod(MethodTree tree, Void nothing) {
        Element outer = method;
        method = elementHere();
        calls.add((ExecutableElement) method);
        long lines = lastLineOf(tree) - lineOf(tree) + 1;
        allow(11, tree, tree.getName() + " has " + lines + " lines", lines <= MOST_LINES);
        allow(11, tree, tree.getName() + " has " + tree.getParameters().size() + " parameters",
            tree.getParameters().size() <= MOST_PARAMETERS);
        if (tree.getReturnType() != null) {
            allowType(tree.getReturnType(), typeOf(tree.getReturnType()), true);
        }
        super.visitMethod(tree, nothing);
        method = outer;
        return null;
    }

    @Override
    public Void visitVariable(VariableTree tree, Void nothing) {
        Element e = elementHere();
        allowType(tree, e.asType(), false);
        if (e.getKind() == ElementKind.FIELD && e.getModifiers().contains(Modifier.STATIC)) {
            allow(5, tree, tree.getName() + " is final", e.getModifiers().contains(Modifier.FINAL));
            allow(5, tree, tree.getName() + " is a constant or a row written out", tree.getInitializer() != null
                && (e.asType().getKind() != TypeKind.ARRAY || isWrittenOut(tree.getInitializer())));
        }
        return super.visitVariable(tree, nothing);
    }

    private static boolean isWrittenOut(ExpressionTree tree) {
        return tree instanceof NewArrayTree row && row.getInitializers() != null && row.getInitializers().stream()
            .allMatch(e -> e instanceof LiteralTree || e.getKind() == Tree.Kind.UNARY_MINUS);
    }

    private void allowType(Tree at, TypeMirror type, boolean mayBeVoid) {
        boolean row = type.getKind() == TypeKind.ARRAY;
        TypeMirror bare = row ? ((javax.lang.model.type.ArrayType) type).getComponentType() : type;
        boolean mine = bare.toString().startsWith("ChainsHold.");
        allow(3, at, "type " + type, NUMBERS.contains(bare.getKind()) || mine || mayBeVoid && bare.getKind() == TypeKind.VOID);
    }

    // ---- calls, things made

    @Override
    public Void visitMethodInvocation(MethodInvocationTree tree, Void nothing) {
        called(tree, elementHere());
        return super.visitMethodInvocation(tree, nothing);
    }

    @Override
    public Void visitNewClass(NewClassTree tree, Void nothing) {
        Element made = elementHere();
        allow(2, tree, "a class without a name", tree.getClassBody() == null);
        allow(12, tree, "an object is made by a call", isMadeWithTheObject());
        called(tree, made);
        return super.visitNewClass(tree, nothing);
    }

    private void called(Tree tree, Element e) {
        String owner = ((javax.lang.model.element.TypeElement) e.getEnclosingElement()).getQualifiedName().toString();
        if (owner.equals("ChainsHold") || owner.startsWith("ChainsHold.")) {
            if (method != null) {
                calls.add((ExecutableElement) method, (ExecutableElement) e);
            }
        } else {
            allow(4, tree, owner + "." + e.getSimpleName(), MAY_CALL.contains(owner + "." + e.getSimpleName()));
        }
    }

    /** A field's own line or a constructor. */
    private boolean isMadeWithTheObject() {
        return method == null || method.getKind() == ElementKind.CONSTRUCTOR;
    }

    @Override
    public Void visitNewArray(NewArrayTree tree, Void nothing) {
        allow(12, tree, "a row is made by a call", isMadeWithTheObject());
        return super.visitNewArray(tree, nothing);
    }

    @Override
    public Void visitAssignment(AssignmentTree tree, Void nothing) {
        allowAssigning(tree, tree.getVariable());
        return super.visitAssignment(tree, nothing);
    }

    @Override
    public Void visitCompoundAssignment(CompoundAssignmentTree tree, Void nothing) {
        allowAssigning(tree, tree.getVariable());
        return super.visitCompoundAssignment(tree, nothing);
    }

    private void allowAssigning(Tree at, ExpressionTree to) {
        Tree bare = to instanceof com.sun.source.tree.ArrayAccessTree element ? element.getExpression() : to;
        Element e = trees.getElement(trees.getPath(unit, bare));
        allow(5, at, to + " is no constant", e == null || !e.getModifiers().contains(Modifier.STATIC));
    }

    // ---- what is left out

    private Void leftOut(int rule, Tree tree, String what) {
        allow(rule, tree, what, false);
        return null;
    }

    @Override
    public Void visitThrow(ThrowTree tree, Void nothing) {
        return leftOut(6, tree, "throw");
    }

    @Override
    public Void visitTry(TryTree tree, Void nothing) {
        return leftOut(6, tree, "try");
    }

    @Override
    public Void visitSynchronized(SynchronizedTree tree, Void nothing) {
        return leftOut(6, tree, "synchronized");
    }

    @Override
    public Void visitAssert(AssertTree tree, Void nothing) {
        return leftOut(6, tree, "assert");
    }

    @Override
    public Void visitInstanceOf(InstanceOfTree tree, Void nothing) {
        return leftOut(6, tree, "instanceof, of which this class has no need");
    }

    @Override
    public Void visitLambdaExpression(LambdaExpressionTree tree, Void nothing) {
        return leftOut(2, tree, "a lambda");
    }

    @Override
    public Void visitMemberReference(MemberReferenceTree tree, Void nothing) {
        return leftOut(2, tree, "a method reference");
    }

    @Override
    public Void visitSwitchExpression(SwitchExpressionTree tree, Void nothing) {
        return leftOut(10, tree, "a switch that has a value");
    }

    @Override
    public Void visitTypeCast(TypeCastTree tree, Void nothing) {
        allow(6, tree, "a cast to " + tree.getType(), NUMBERS.contains(typeOf(tree.getType()).getKind()));
        return super.visitTypeCast(tree, nothing);
    }

    @Override
    public Void visitBinary(BinaryTree tree, Void nothing) {
        allow(10, tree, "a text joined by +", !typeOf(tree).toString().equals("java.lang.String"));
        return super.visitBinary(tree, nothing);
    }

    // ---- loops

    private void allowLoop(Tree tree, ExpressionTree condition) {
        loops++;
        String plain = condition == null ? "" : condition.toString().replaceAll("[()]", "");
        allow(9, tree, "a loop's end: " + plain, !plain.isEmpty() && !plain.equals("true"));
    }

    @Override
    public Void visitForLoop(ForLoopTree tree, Void nothing) {
        allowLoop(tree, tree.getCondition());
        return super.visitForLoop(tree, nothing);
    }

    @Override
    public Void visitWhileLoop(WhileLoopTree tree, Void nothing) {
        allowLoop(tree, tree.getCondition());
        return super.visitWhileLoop(tree, nothing);
    }

    @Override
    public Void visitDoWhileLoop(DoWhileLoopTree tree, Void nothing) {
        allowLoop(tree, tree.getCondition());
        return super.visitDoWhileLoop(tree, nothing);
    }
}
