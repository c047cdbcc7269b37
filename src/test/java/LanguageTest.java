import com.sun.source.tree.AssertTree;
import com.sun.source.tree.ClassTree;
import com.sun.source.tree.CompilationUnitTree;
import com.sun.source.tree.IdentifierTree;
import com.sun.source.tree.InstanceOfTree;
import com.sun.source.tree.LambdaExpressionTree;
import com.sun.source.tree.MemberReferenceTree;
import com.sun.source.tree.MemberSelectTree;
import com.sun.source.tree.MethodTree;
import com.sun.source.tree.NewArrayTree;
import com.sun.source.tree.NewClassTree;
import com.sun.source.tree.SynchronizedTree;
import com.sun.source.tree.ThrowTree;
import com.sun.source.tree.Tree;
import com.sun.source.tree.TryTree;
import com.sun.source.tree.TypeCastTree;
import com.sun.source.tree.VariableTree;
import com.sun.source.util.JavacTask;
import com.sun.source.util.TreePath;
import com.sun.source.util.TreePathScanner;
import com.sun.source.util.Trees;
import java.io.IOException;
import java.nio.file.Files;
import java.nio.file.Path;
import java.util.HashMap;
import java.util.LinkedHashSet;
import java.util.List;
import java.util.Map;
import java.util.Set;
import java.util.TreeSet;
import javax.lang.model.element.Element;
import javax.lang.model.element.ElementKind;
import javax.lang.model.element.ExecutableElement;
import javax.lang.model.element.Modifier;
import javax.lang.model.element.TypeElement;
import javax.lang.model.element.VariableElement;
import javax.tools.JavaCompiler;
import javax.tools.StandardJavaFileManager;
import javax.tools.ToolProvider;

/**
 * The rules of LANGUAGE.md, looked at in the tree that javac makes of the class. Run from the project's root.
 * Where a rule allows more than the class needs (recursion, texts, lists), the test allows only what it needs.
 */
public final class LanguageTest extends TreePathScanner<Void, Void> {
    private static final Path CLASS = Path.of("src/main/java/NoticeBoxes.java");
    /** Rule 4; Object's constructor is what javac itself puts ahead of each constructor's lines. */
    private static final Set<String> LIBRARY = Set.of("Object.<init>", "Math.max", "Math.min", "Math.abs",
            "Integer.bitCount", "Integer.compare", "System.arraycopy", "Arrays.fill", "Arrays.copyOf");
    private static final Set<String> TYPES = Set.of("void", "int", "boolean", "long", "int[]");
    private static final int MOST_CLASSES = 12, MOST_FIELDS = 20, MOST_LINES = 60, MOST_PARAMETERS = 7, DEEPEST = 8;

    private final Trees trees;
    private final CompilationUnitTree unit;
    private final Map<Element, Set<Element>> callees = new HashMap<>();
    private int classes;

    private LanguageTest(Trees trees, CompilationUnitTree unit) {
        this.trees = trees;
        this.unit = unit;
    }

    public static void main(String[] args) throws IOException {
        Check.holds("only signs of 7 bits", Files.readString(CLASS).chars().allMatch(c -> c < 128));
        JavaCompiler compiler = ToolProvider.getSystemJavaCompiler();
        try (StandardJavaFileManager files = compiler.getStandardFileManager(null, null, null)) {
            JavacTask task = (JavacTask) compiler.getTask(null, files, null, List.of("--release", "17"), null,
                    files.getJavaFileObjects(CLASS));
            CompilationUnitTree unit = task.parse().iterator().next();
            task.analyze();
            LanguageTest test = new LanguageTest(Trees.instance(task), unit);
            test.lookAtFile();
            test.scan(unit, null);
            test.lookAtCalls();
        }
        Check.end();
    }

    private void lookAtFile() {
        Check.holds("1, 4: no package, nothing brought in", unit.getPackage() == null && unit.getImports().isEmpty());
        Check.holds("1: one class that is not inside it", unit.getTypeDecls().size() == 1);
    }

    @Override
    public Void visitClass(ClassTree tree, Void none) {
        classes++;
        Set<Modifier> modifiers = tree.getModifiers().getFlags();
        boolean isFace = getCurrentPath().getParentPath().getLeaf() == unit;
        boolean isMember = getCurrentPath().getParentPath().getLeaf() instanceof ClassTree;
        Check.holds("1, 2: static, private or package-visible: " + tree.getSimpleName(), isFace || isMember
                && modifiers.contains(Modifier.STATIC) && !modifiers.contains(Modifier.PUBLIC)
                && !modifiers.contains(Modifier.PROTECTED));
        int fields = 0;
        for (Tree member : tree.getMembers()) {
            Check.holds("5: no initialiser block in " + tree.getSimpleName(), member.getKind() != Tree.Kind.BLOCK);
            if (member instanceof VariableTree field && !isStatic(field)) {
                fields++;
            }
        }
        Check.holds("11: at most twenty fields in " + tree.getSimpleName(), fields <= MOST_FIELDS);
        Check.holds("11: at most twelve classes", classes <= MOST_CLASSES);
        return super.visitClass(tree, none);
    }

    private static boolean isStatic(VariableTree field) {
        return field.getModifiers().getFlags().contains(Modifier.STATIC);
    }

    @Override
    public Void visitVariable(VariableTree tree, Void none) {
        lookAtType(tree.getName().toString(), tree.getType());
        if (isStatic(tree)) {
            VariableElement field = (VariableElement) trees.getElement(getCurrentPath());
            Check.holds("5: final, a number known at once: " + tree.getName(),
                    field.getModifiers().contains(Modifier.FINAL) && field.getConstantValue() instanceof Integer);
        }
        return super.visitVariable(tree, none);
    }

    private void lookAtType(String name, Tree type) {
        if (type == null) {
            return;
        }
        String text = type.toString();
        TypeElement face = (TypeElement) trees.getElement(new TreePath(new TreePath(unit), unit.getTypeDecls().get(0)));
        boolean isOwn = face.getEnclosedElements().stream().filter(e -> e.getKind() == ElementKind.CLASS)
                .anyMatch(e -> text.equals(e.getSimpleName().toString()) || text.equals(e.getSimpleName() + "[]"));
        Check.holds("3: the type of " + name + ", " + text, TYPES.contains(text) || isOwn);
    }

    @Override
    public Void visitMethod(MethodTree tree, Void none) {
        lookAtType(tree.getName().toString(), tree.getReturnType());
        Check.holds("11: at most seven parameters: " + tree.getName(), tree.getParameters().size() <= MOST_PARAMETERS);
        Check.holds("11: short: " + tree.getName(), lineAt(tree, false) - lineAt(tree, true) < MOST_LINES);
        return super.visitMethod(tree, none);
    }

    private long lineAt(Tree tree, boolean start) {
        long place = start ? trees.getSourcePositions().getStartPosition(unit, tree)
                : trees.getSourcePositions().getEndPosition(unit, tree);
        return place < 0 ? 0 : unit.getLineMap().getLineNumber(place);
    }

    @Override
    public Void visitIdentifier(IdentifierTree tree, Void none) {
        lookAtUse(trees.getElement(getCurrentPath()));
        return super.visitIdentifier(tree, none);
    }

    @Override
    public Void visitMemberSelect(MemberSelectTree tree, Void none) {
        lookAtUse(trees.getElement(getCurrentPath()));
        return super.visitMemberSelect(tree, none);
    }

    /** What a name stands for: a call is noted, and nothing of the library is used but what rule 4 lists. */
    private void lookAtUse(Element used) {
        if (used == null || used.getKind().isClass() || used.getEnclosingElement() == null) {
            return;
        }
        boolean isMember = used instanceof ExecutableElement || used.getKind() == ElementKind.FIELD;
        if (!isMember || !(used.getEnclosingElement() instanceof TypeElement owner) || isArrayLength(used, owner)) {
            return;
        }
        if (!isInFile(owner)) {
            String name = owner.getSimpleName() + "." + used.getSimpleName();
            Check.holds("4: of the library: " + name, LIBRARY.contains(name));
        }
        if (used instanceof ExecutableElement) {
            noteCall(used);
        }
    }

    private static boolean isArrayLength(Element used, TypeElement owner) {
        return used.getSimpleName().contentEquals("length") && owner.getSimpleName().contentEquals("Array");
    }

    private boolean isInFile(Element element) {
        TreePath path = trees.getPath(element);
        return path != null && path.getCompilationUnit() == unit;
    }

    /** A field's first value is made by the constructors of its class. */
    private void noteCall(Element callee) {
        for (TreePath path = getCurrentPath(); path != null; path = path.getParentPath()) {
            if (path.getLeaf() instanceof MethodTree) {
                callees.computeIfAbsent(trees.getElement(path), k -> new LinkedHashSet<>()).add(callee);
                return;
            }
            if (path.getLeaf() instanceof ClassTree) {
                for (Element member : trees.getElement(path).getEnclosedElements()) {
                    if (member.getKind() == ElementKind.CONSTRUCTOR) {
                        callees.computeIfAbsent(member, k -> new LinkedHashSet<>()).add(callee);
                    }
                }
                return;
            }
        }
    }

    @Override
    public Void visitNewClass(NewClassTree tree, Void none) {
        Check.holds("2: no class without a name", tree.getClassBody() == null);
        noteCall(trees.getElement(getCurrentPath()));
        lookAtMaker("new " + tree.getIdentifier());
        return super.visitNewClass(tree, none);
    }

    @Override
    public Void visitNewArray(NewArrayTree tree, Void none) {
        lookAtMaker("a new array of " + tree.getType());
        return super.visitNewArray(tree, none);
    }

    /** Rule 12 allows more: this class makes all that it needs at once, so that its calls make nothing. */
    private void lookAtMaker(String made) {
        boolean isCall = false;
        for (TreePath path = getCurrentPath(); path != null; path = path.getParentPath()) {
            isCall |= path.getLeaf() instanceof MethodTree method && !method.getName().contentEquals("<init>");
        }
        Check.holds("12: made by constructors alone: " + made, !isCall);
    }

    private void lookAtCalls() {
        Set<String> deepest = new TreeSet<>();
        for (Element method : callees.keySet()) {
            int depth = depth(method, new LinkedHashSet<>());
            if (depth > DEEPEST) {
                deepest.add(method + " goes " + depth + " deep");
            }
        }
        Check.holds("calls were found", callees.size() > 50);
        Check.holds("8, 11: no recursion, calls at most eight deep: " + deepest, deepest.isEmpty());
    }

    private int depth(Element method, Set<Element> open) {
        if (!open.add(method)) {
            return 1000;
        }
        int below = 0;
        for (Element callee : callees.getOrDefault(method, Set.of())) {
            below = Math.max(below, depth(callee, open));
        }
        open.remove(method);
        return 1 + below;
    }

    private Void banned(Tree tree) {
        Check.holds("2, 6: none of these: " + tree, false);
        return null;
    }

    @Override
    public Void visitThrow(ThrowTree tree, Void none) {
        return banned(tree);
    }

    @Override
    public Void visitTry(TryTree tree, Void none) {
        return banned(tree);
    }

    @Override
    public Void visitSynchronized(SynchronizedTree tree, Void none) {
        return banned(tree);
    }

    @Override
    public Void visitAssert(AssertTree tree, Void none) {
        return banned(tree);
    }

    @Override
    public Void visitLambdaExpression(LambdaExpressionTree tree, Void none) {
        return banned(tree);
    }

    @Override
    public Void visitMemberReference(MemberReferenceTree tree, Void none) {
        return banned(tree);
    }

    @Override
    public Void visitTypeCast(TypeCastTree tree, Void none) {
        return banned(tree);
    }

    @Override
    public Void visitInstanceOf(InstanceOfTree tree, Void none) {
        return banned(tree);
    }
}
