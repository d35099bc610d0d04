import com.sun.source.tree.AssertTree;
import com.sun.source.tree.BinaryTree;
import com.sun.source.tree.ClassTree;
import com.sun.source.tree.CompilationUnitTree;
import com.sun.source.tree.DoWhileLoopTree;
import com.sun.source.tree.ForLoopTree;
import com.sun.source.tree.ImportTree;
import com.sun.source.tree.LambdaExpressionTree;
import com.sun.source.tree.LiteralTree;
import com.sun.source.tree.MemberReferenceTree;
import com.sun.source.tree.MemberSelectTree;
import com.sun.source.tree.MethodInvocationTree;
import com.sun.source.tree.MethodTree;
import com.sun.source.tree.NewClassTree;
import com.sun.source.tree.SynchronizedTree;
import com.sun.source.tree.ThrowTree;
import com.sun.source.tree.Tree;
import com.sun.source.tree.TryTree;
import com.sun.source.tree.VariableTree;
import com.sun.source.tree.WhileLoopTree;
import com.sun.source.util.JavacTask;
import com.sun.source.util.SourcePositions;
import com.sun.source.util.TreePathScanner;
import com.sun.source.util.Trees;
import java.io.IOException;
import java.nio.file.Path;
import java.util.ArrayList;
import java.util.HashSet;
import java.util.List;
import java.util.Map;
import java.util.Set;
import java.util.TreeMap;
import java.util.TreeSet;
import javax.lang.model.element.Element;
import javax.lang.model.element.ElementKind;
import javax.lang.model.element.Modifier;
import javax.lang.model.element.TypeElement;
import javax.lang.model.type.ArrayType;
import javax.lang.model.type.TypeKind;
import javax.lang.model.type.TypeMirror;
import javax.tools.JavaCompiler;
import javax.tools.StandardJavaFileManager;
import javax.tools.ToolProvider;

/** Looks over the program's source for the rules of LANGUAGE.md that a compiler's tree can show. */
public final class LanguageRules extends TreePathScanner<Void, Void> {
    private static final Set<String> FACE = Set.of("feed", "clock", "fault", "told", "wheel", "link", "feast", "stands",
        "days", "cut", "slip", "drift", "undo", "next", "together", "again", "added", "alike", "idlers", "free", "rest",
        "wear", "slips", "hidden", "stood", "teeth", "look", "write", "judge", "tear", "seed", "keep", "goBack");
    private static final Set<String> CONSTANTS = Set.of("NONE", "UNKNOWN", "OUTSIDE", "NOT", "FULL");
    private static final Map<String, Set<String>> LIBRARY = Map.of(
        "java.lang.Math", Set.of("min", "max", "abs", "floorDiv", "floorMod"),
        "java.lang.Integer", Set.of("bitCount"),
        "java.lang.System", Set.of("arraycopy"),
        "java.util.Arrays", Set.of("fill"),
        "java.lang.Object", Set.of("<init>"));
    private static final int MOST_LINES = 60, MOST_PARAMETERS = 7, MOST_CLASSES = 12, MOST_FIELDS = 20, DEEPEST = 8;

    private final Trees trees;
    private final CompilationUnitTree unit;
    private final SourcePositions positions;
    private final Set<String> wrong = new TreeSet<>();
    private final Map<String, Set<String>> callees = new TreeMap<>();
    private int classes = 0;
    private int methods = 0;

    private LanguageRules(JavacTask task, CompilationUnitTree unit) {
        this.trees = Trees.instance(task);
        this.unit = unit;
        this.positions = trees.getSourcePositions();
    }

    private long line(long position) {
        return unit.getLineMap().getLineNumber(position);
    }

    private void wrong(int rule, Tree tree, String what) {
        wrong.add("line " + line(positions.getStartPosition(unit, tree)) + ": rule " + rule + ": " + what);
    }

    private void wrongIf(boolean is, int rule, Tree tree, String what) {
        if (is) {
            wrong(rule, tree, what);
        }
    }

    @Override public Void visitImport(ImportTree tree, Void none) {
        wrongIf(!tree.toString().trim().equals("import java.util.Arrays;"), 4, tree, "import");
        return super.visitImport(tree, none);
    }

    @Override public Void visitClass(ClassTree tree, Void none) {
        classes++;
        Element element = trees.getElement(getCurrentPath());
        Set<Modifier> modifiers = tree.getModifiers().getFlags();
        boolean isTop = element.getEnclosingElement().getKind() == ElementKind.PACKAGE;
        wrongIf(isTop && !modifiers.equals(Set.of(Modifier.PUBLIC, Modifier.FINAL)), 1, tree, "not public and final");
        wrongIf(!isTop && (element.getEnclosingElement().getKind() != ElementKind.CLASS || !modifiers.contains(Modifier.STATIC)
            || modifiers.contains(Modifier.PUBLIC) || modifiers.contains(Modifier.PROTECTED)), 2, tree, "class inside");
        int fields = 0;
        for (Tree member : tree.getMembers()) {
            wrongIf(member.getKind() == Tree.Kind.BLOCK, 5, member, "initialiser block");
            if (member instanceof VariableTree field) {
                boolean isStatic = field.getModifiers().getFlags().contains(Modifier.STATIC);
                fields += isStatic ? 0 : 1;
                field(field, isTop, isStatic);
            }
            if (member instanceof MethodTree method) {
                method(method, isTop);
            }
        }
        wrongIf(fields > MOST_FIELDS, 11, tree, fields + " fields");
        return super.visitClass(tree, none);
    }

    private void field(VariableTree field, boolean isTop, boolean isStatic) {
        Set<Modifier> modifiers = field.getModifiers().getFlags();
        boolean isConstant = CONSTANTS.contains(field.getName().toString());
        wrongIf(isStatic && !modifiers.contains(Modifier.FINAL), 5, field, "static and not final");
        wrongIf(isStatic && !field.getType().toString().equals("int"), 5, field, "static and no int");
        wrongIf(isTop && isConstant != modifiers.contains(Modifier.PUBLIC), 1, field, "constant");
        wrongIf(isTop && !isConstant && !modifiers.contains(Modifier.PRIVATE), 1, field, "field");
    }

    private void method(MethodTree method, boolean isTop) {
        Set<Modifier> modifiers = method.getModifiers().getFlags();
        String name = method.getName().toString();
        boolean isMade = name.equals("<init>");
        if (isTop && !isMade) {
            wrongIf(FACE.contains(name) != modifiers.contains(Modifier.PUBLIC), 1, method, name);
            wrongIf(!FACE.contains(name) && !modifiers.contains(Modifier.PRIVATE), 1, method, name);
        }
        wrongIf(!isTop && FACE.contains(name), 1, method, name + " is a public one's name");
        wrongIf(Set.of("equals", "hashCode", "toString").contains(name), 6, method, name);
    }

    /** Whether rule 3 leaves a type: the program needs neither lists nor texts nor doubles. */
    private static boolean isLeft(TypeMirror type) {
        if (type.getKind() == TypeKind.ARRAY) {
            TypeMirror element = ((ArrayType) type).getComponentType();
            return element.getKind() != TypeKind.ARRAY && isLeft(element);
        }
        return Set.of(TypeKind.INT, TypeKind.LONG, TypeKind.CHAR, TypeKind.BOOLEAN).contains(type.getKind())
            || type.toString().startsWith("CogFamily.");
    }

    @Override public Void visitVariable(VariableTree tree, Void none) {
        TypeMirror type = trees.getTypeMirror(getCurrentPath());
        wrongIf(type == null || !isLeft(type), 3, tree, "type " + tree.getType());
        return super.visitVariable(tree, none);
    }

    @Override public Void visitLiteral(LiteralTree tree, Void none) {
        if (tree.getValue() instanceof String text) {
            wrongIf(text.chars().anyMatch(sign -> sign < 1 || sign > 127), 4, tree, "a sign beyond 127");
        }
        return super.visitLiteral(tree, none);
    }

    @Override public Void visitForLoop(ForLoopTree tree, Void none) {
        wrongIf(tree.getCondition() == null || tree.getUpdate().isEmpty(), 9, tree, "a loop without an end in sight");
        return super.visitForLoop(tree, none);
    }

    @Override public Void visitWhileLoop(WhileLoopTree tree, Void none) {
        wrongIf(!tree.getCondition().toString().contains(" < "), 9, tree, "a loop without an end in sight");
        return super.visitWhileLoop(tree, none);
    }

    @Override public Void visitDoWhileLoop(DoWhileLoopTree tree, Void none) {
        wrongIf(!tree.getCondition().toString().contains(" < "), 9, tree, "a loop without an end in sight");
        return super.visitDoWhileLoop(tree, none);
    }

    @Override public Void visitMethod(MethodTree tree, Void none) {
        methods++;
        long lines = line(positions.getEndPosition(unit, tree)) - line(positions.getStartPosition(unit, tree)) + 1;
        wrongIf(lines > MOST_LINES, 11, tree, lines + " lines");
        wrongIf(tree.getParameters().size() > MOST_PARAMETERS, 11, tree, "parameters");
        callees.putIfAbsent(nameOf(trees.getElement(getCurrentPath())), new TreeSet<>());
        return super.visitMethod(tree, none);
    }

    private static String nameOf(Element method) {
        return ((TypeElement) method.getEnclosingElement()).getQualifiedName() + "." + method;
    }

    private void call(Element callee, Tree tree) {
        String owner = ((TypeElement) callee.getEnclosingElement()).getQualifiedName().toString();
        boolean isOwn = owner.equals("CogFamily") || owner.startsWith("CogFamily.");
        wrongIf(!isOwn && !LIBRARY.getOrDefault(owner, Set.of()).contains(callee.getSimpleName().toString()), 4, tree, owner + "." + callee);
        Tree around = trees.getTree(callee);
        for (var path = getCurrentPath(); path != null; path = path.getParentPath()) {
            if (path.getLeaf() instanceof MethodTree) {
                String caller = nameOf(trees.getElement(path));
                callees.computeIfAbsent(caller, k -> new TreeSet<>()).add(nameOf(callee));
                return;
            }
        }
        wrongIf(around == null, 12, tree, "call outside a method");
    }

    @Override public Void visitMethodInvocation(MethodInvocationTree tree, Void none) {
        call(trees.getElement(new com.sun.source.util.TreePath(getCurrentPath(), tree.getMethodSelect())), tree);
        return super.visitMethodInvocation(tree, none);
    }

    @Override public Void visitNewClass(NewClassTree tree, Void none) {
        wrongIf(tree.getClassBody() != null, 2, tree, "anonymous class");
        call(trees.getElement(getCurrentPath()), tree);
        return super.visitNewClass(tree, none);
    }

    @Override public Void visitMemberSelect(MemberSelectTree tree, Void none) {
        Element element = trees.getElement(getCurrentPath());
        if (element != null && element.getKind().isField() && element.getEnclosingElement() instanceof TypeElement owner) {
            String name = owner.getQualifiedName().toString();
            wrongIf(name.startsWith("java"), 4, tree, name + "." + element);
        }
        return super.visitMemberSelect(tree, none);
    }

    @Override public Void visitBinary(BinaryTree tree, Void none) {
        var type = trees.getTypeMirror(getCurrentPath());
        wrongIf(type == null || type.getKind() == TypeKind.DECLARED, 10, tree, "texts joined by +");
        return super.visitBinary(tree, none);
    }

    @Override public Void visitThrow(ThrowTree tree, Void none) {
        wrong(6, tree, "throw");
        return super.visitThrow(tree, none);
    }

    @Override public Void visitTry(TryTree tree, Void none) {
        wrong(6, tree, "try");
        return super.visitTry(tree, none);
    }

    @Override public Void visitAssert(AssertTree tree, Void none) {
        wrong(6, tree, "assert");
        return super.visitAssert(tree, none);
    }

    @Override public Void visitSynchronized(SynchronizedTree tree, Void none) {
        wrong(6, tree, "synchronized");
        return super.visitSynchronized(tree, none);
    }

    @Override public Void visitLambdaExpression(LambdaExpressionTree tree, Void none) {
        wrong(2, tree, "lambda");
        return super.visitLambdaExpression(tree, none);
    }

    @Override public Void visitMemberReference(MemberReferenceTree tree, Void none) {
        wrong(2, tree, "method reference");
        return super.visitMemberReference(tree, none);
    }

    /** How deep the calls from here go; those of the library count, too. */
    private int depth(String method, Set<String> open) {
        if (!open.add(method)) {
            wrong.add("rule 8: recursion at " + method);
            return 0;
        }
        int deepest = 0;
        for (String callee : callees.getOrDefault(method, Set.of())) {
            deepest = Math.max(deepest, depth(callee, open));
        }
        open.remove(method);
        return deepest + 1;
    }

    private void whole() {
        if (classes > MOST_CLASSES) {
            wrong.add("rule 11: " + classes + " classes");
        }
        int deepest = 0;
        for (String method : List.copyOf(callees.keySet())) {
            int depth = depth(method, new HashSet<>());
            deepest = Math.max(deepest, depth);
            if (depth > DEEPEST) {
                wrong.add("rule 11: " + depth + " calls deep from " + method);
            }
        }
        System.out.println("LanguageRules: " + classes + " classes, " + methods + " methods, calls " + deepest + " deep at most, "
            + wrong.size() + " against the rules");
    }

    public static void main(String[] args) throws IOException {
        Path source = Path.of(args.length > 0 ? args[0] : "src/main/java/CogFamily.java");
        JavaCompiler compiler = ToolProvider.getSystemJavaCompiler();
        List<String> wrong = new ArrayList<>();
        try (StandardJavaFileManager files = compiler.getStandardFileManager(null, null, null)) {
            JavacTask task = (JavacTask) compiler.getTask(null, files, null, List.of("-proc:none"), null, files.getJavaFileObjects(source));
            for (CompilationUnitTree unit : task.parse()) {
                task.analyze();
                LanguageRules rules = new LanguageRules(task, unit);
                rules.scan(unit, null);
                rules.whole();
                wrong.addAll(rules.wrong);
            }
        }
        for (String line : wrong) {
            System.out.println(line);
        }
        if (!wrong.isEmpty()) {
            System.exit(1);
        }
    }
}
