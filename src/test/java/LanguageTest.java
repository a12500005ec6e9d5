import com.sun.source.tree.ClassTree;
import com.sun.source.tree.CompilationUnitTree;
import com.sun.source.tree.ImportTree;
import com.sun.source.tree.MemberSelectTree;
import com.sun.source.tree.MethodInvocationTree;
import com.sun.source.tree.MethodTree;
import com.sun.source.tree.NewArrayTree;
import com.sun.source.tree.NewClassTree;
import com.sun.source.tree.Tree;
import com.sun.source.tree.VariableTree;
import com.sun.source.util.JavacTask;
import com.sun.source.util.SourcePositions;
import com.sun.source.util.TreePathScanner;
import com.sun.source.util.Trees;
import java.io.IOException;
import java.nio.file.Path;
import java.util.ArrayList;
import java.util.EnumSet;
import java.util.HashMap;
import java.util.HashSet;
import java.util.List;
import java.util.Map;
import java.util.Set;
import javax.lang.model.element.Modifier;
import javax.tools.JavaCompiler;
import javax.tools.StandardJavaFileManager;
import javax.tools.ToolProvider;

/** The rules of shared/LANGUAGE.md that can be seen in the tree that javac makes of the source. */
public final class LanguageTest extends TreePathScanner<Void, Void> {
    private static final Path SOURCE = Path.of("src/main/java/UnsaidScales.java");
    private static final int LONGEST_METHOD = 60;
    private static final int MOST_PARAMETERS = 7;
    private static final int MOST_CLASSES = 12;
    private static final int MOST_FIELDS = 20;
    private static final int DEEPEST = 8;
    /** What of the library is used; all of it stands in rule 4. */
    private static final Set<String> LIBRARY = Set.of("Arrays.fill", "System.arraycopy", "Math.min", "Math.max",
        "Integer.bitCount");
    private static final Set<String> TYPES = Set.of("int", "long", "short", "char", "boolean", "int[]", "short[]",
        "char[]", "boolean[]", "Moment[]");
    private static final Set<Tree.Kind> FORBIDDEN = EnumSet.of(Tree.Kind.THROW, Tree.Kind.TRY, Tree.Kind.CATCH,
        Tree.Kind.SYNCHRONIZED, Tree.Kind.ASSERT, Tree.Kind.LAMBDA_EXPRESSION, Tree.Kind.MEMBER_REFERENCE,
        Tree.Kind.STRING_LITERAL, Tree.Kind.SWITCH_EXPRESSION, Tree.Kind.YIELD, Tree.Kind.INSTANCE_OF,
        Tree.Kind.NULL_LITERAL);

    private final Check check = new Check("LanguageTest");
    private final Map<String, Set<String>> calls = new HashMap<>();
    private final Set<String> classes = new HashSet<>();
    private final List<MethodTree> open = new ArrayList<>();
    private CompilationUnitTree unit;
    private SourcePositions positions;

    public static void main(String[] args) throws IOException {
        new LanguageTest().run();
    }

    private void run() throws IOException {
        JavaCompiler compiler = ToolProvider.getSystemJavaCompiler();
        try (StandardJavaFileManager files = compiler.getStandardFileManager(null, null, null)) {
            JavacTask task = (JavacTask) compiler.getTask(null, files, null, null, null, files.getJavaFileObjects(SOURCE));
            unit = task.parse().iterator().next();
            positions = Trees.instance(task).getSourcePositions();
            check.part("language");
            check.that("no package", unit.getPackage() == null);
            check.same("classes in the file, beside those inside", unit.getTypeDecls().size(), 1);
            scan(unit, null);
        }
        check.that("classes " + classes.size(), classes.size() <= MOST_CLASSES);
        for (String method : calls.keySet()) {
            int depth = depthOf(method, new HashSet<>());
            check.that(method + " goes " + depth + " deep", depth <= DEEPEST);
        }
        check.end();
    }

    private long lineOf(Tree tree) {
        return unit.getLineMap().getLineNumber(positions.getStartPosition(unit, tree));
    }

    private long lastLineOf(Tree tree) {
        return unit.getLineMap().getLineNumber(positions.getEndPosition(unit, tree));
    }

    @Override
    public Void scan(Tree tree, Void nothing) {
        if (tree != null) {
            check.that(tree.getKind() + " in line " + lineOf(tree), !FORBIDDEN.contains(tree.getKind()));
        }
        return super.scan(tree, nothing);
    }

    @Override
    public Void visitImport(ImportTree tree, Void nothing) {
        check.that("import of " + tree.getQualifiedIdentifier(),
            tree.getQualifiedIdentifier().toString().equals("java.util.Arrays"));
        return null;
    }

    @Override
    public Void visitClass(ClassTree tree, Void nothing) {
        classes.add(tree.getSimpleName().toString());
        Set<Modifier> flags = tree.getModifiers().getFlags();
        boolean outermost = tree.getSimpleName().contentEquals("UnsaidScales");
        check.that(tree.getSimpleName() + " is static", outermost || flags.contains(Modifier.STATIC));
        check.that(tree.getSimpleName() + " has a name", !tree.getSimpleName().isEmpty());
        int fields = 0;
        for (Tree member : tree.getMembers()) {
            check.that("no block of its own in " + tree.getSimpleName(), member.getKind() != Tree.Kind.BLOCK);
            if (member instanceof VariableTree field) {
                fields += field.getModifiers().getFlags().contains(Modifier.STATIC) ? 0 : 1;
                checkStatic(field);
            }
        }
        check.that(tree.getSimpleName() + " has " + fields + " fields", fields <= MOST_FIELDS);
        return super.visitClass(tree, nothing);
    }

    private void checkStatic(VariableTree field) {
        if (field.getModifiers().getFlags().contains(Modifier.STATIC)) {
            check.that(field.getName() + " is final", field.getModifiers().getFlags().contains(Modifier.FINAL));
            check.that(field.getName() + " is written out", field.getType().toString().equals("int")
                || field.getInitializer() instanceof NewArrayTree array && array.getInitializers() != null);
        }
    }

    @Override
    public Void visitVariable(VariableTree tree, Void nothing) {
        String type = tree.getType().toString();
        check.that(tree.getName() + " has the type " + type, TYPES.contains(type) || type.matches("[A-Z][A-Za-z]*"));
        return super.visitVariable(tree, nothing);
    }

    @Override
    public Void visitMethod(MethodTree tree, Void nothing) {
        long lines = lastLineOf(tree) - lineOf(tree) + 1;
        check.that(tree.getName() + " has " + lines + " lines", lines <= LONGEST_METHOD);
        check.that(tree.getName() + " has few parameters", tree.getParameters().size() <= MOST_PARAMETERS);
        calls.computeIfAbsent(tree.getName().toString(), k -> new HashSet<>());
        open.add(tree);
        super.visitMethod(tree, nothing);
        open.remove(open.size() - 1);
        return null;
    }

    @Override
    public Void visitMethodInvocation(MethodInvocationTree tree, Void nothing) {
        String called = tree.getMethodSelect().toString();
        boolean ofLibrary = called.matches("[A-Z].*");
        check.that("call of " + called, !ofLibrary || LIBRARY.contains(called));
        if (!open.isEmpty()) {
            String name = tree.getMethodSelect() instanceof MemberSelectTree select
                ? select.getIdentifier().toString() : called;
            calls.get(open.get(open.size() - 1).getName().toString()).add(name);
        }
        return super.visitMethodInvocation(tree, nothing);
    }

    @Override
    public Void visitNewClass(NewClassTree tree, Void nothing) {
        check.that("no class without a name in line " + lineOf(tree), tree.getClassBody() == null);
        boolean inCall = !open.isEmpty() && !open.get(open.size() - 1).getName().contentEquals("<init>");
        check.that("no object is made by a call, line " + lineOf(tree), !inCall);
        return super.visitNewClass(tree, nothing);
    }

    /** By names alone, so alike names of several classes count as one: never too little. */
    private int depthOf(String method, Set<String> above) {
        check.that(method + " does not call itself", !above.contains(method));
        if (above.contains(method)) {
            return 0;
        }
        Set<String> now = new HashSet<>(above);
        now.add(method);
        int deepest = 0;
        for (String called : calls.getOrDefault(method, Set.of())) {
            deepest = Math.max(deepest, depthOf(called, now));
        }
        return 1 + deepest;
    }
}
