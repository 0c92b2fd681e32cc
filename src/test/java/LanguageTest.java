import com.sun.source.tree.*;
import com.sun.source.util.*;
import java.io.File;
import java.util.*;
import javax.lang.model.element.*;
import javax.tools.*;

/** Rules of ../shared/LANGUAGE.md that a reading of the source can tell. */
public final class LanguageTest {
    private static final Checks checks = new Checks();
    private static final Set<String> ALLOWED = Set.of("java.lang.Math.max", "java.lang.Math.min",
            "java.lang.System.arraycopy", "java.util.Arrays.fill");
    private static final Set<Tree.Kind> FORBIDDEN = EnumSet.of(Tree.Kind.THROW, Tree.Kind.TRY, Tree.Kind.CATCH,
            Tree.Kind.SYNCHRONIZED, Tree.Kind.ASSERT, Tree.Kind.LAMBDA_EXPRESSION, Tree.Kind.MEMBER_REFERENCE,
            Tree.Kind.SWITCH_EXPRESSION, Tree.Kind.INSTANCE_OF, Tree.Kind.UNSIGNED_RIGHT_SHIFT_ASSIGNMENT,
            Tree.Kind.STRING_LITERAL, Tree.Kind.ENHANCED_FOR_LOOP);
    /** The class gets by with these, with its own classes, and with one-dimensional arrays of numbers and truths. */
    private static final Set<String> TYPES = Set.of("int", "long", "float", "boolean", "char", "void", "int[]", "boolean[]");

    private static Trees trees;
    private static CompilationUnitTree unit;
    private static final Set<String> face = new HashSet<>();
    private static final Map<String, Set<String>> calls = new TreeMap<>();

    public static void main(String[] args) throws Exception {
        JavaCompiler compiler = ToolProvider.getSystemJavaCompiler();
        StandardJavaFileManager files = compiler.getStandardFileManager(null, null, null);
        JavacTask task = (JavacTask) compiler.getTask(null, files, null, List.of("-proc:none"), null,
                files.getJavaFileObjects(new File("src/main/java/WordMender.java")));
        unit = task.parse().iterator().next();
        task.analyze();
        trees = Trees.instance(task);
        checks.holds("rule 1: no package", unit.getPackageName() == null);
        for (java.lang.reflect.Method m : WordMender.class.getDeclaredMethods()) {
            if (java.lang.reflect.Modifier.isPublic(m.getModifiers())) face.add(m.getName());
        }
        for (ImportTree i : unit.getImports()) checks.same("rule 4: import", i.getQualifiedIdentifier().toString(), "java.util.Arrays");
        Reader reader = new Reader();
        reader.scan(unit, null);
        checks.holds("rule 11: some twelve classes: " + reader.classes, reader.classes <= 12);
        int deepest = 0;
        for (String m : calls.keySet()) deepest = Math.max(deepest, depth(m, new ArrayDeque<>()));
        System.out.println(reader.classes + " classes, calls " + deepest + " deep");
        checks.holds("rule 11: calls " + deepest + " deep", deepest <= 8);
        checks.end();
    }

    private static int depth(String method, Deque<String> open) {
        checks.holds("rule 8: no recursion: " + method, !open.contains(method));
        if (open.contains(method)) return 0;
        open.push(method);
        int deepest = 0;
        for (String next : calls.getOrDefault(method, Set.of())) deepest = Math.max(deepest, depth(next, open));
        open.pop();
        return deepest + 1;
    }

    private static final class Reader extends TreePathScanner<Void, Void> {
        int classes;
        private final Set<String> own = new HashSet<>();
        private String method = "";
        private boolean makes = true;

        @Override public Void scan(Tree tree, Void v) {
            if (tree != null) checks.holds("rule 6 or 2: " + tree.getKind() + " " + tree, !FORBIDDEN.contains(tree.getKind()));
            return super.scan(tree, v);
        }

        @Override public Void visitClass(ClassTree tree, Void v) {
            classes++;
            makes = true;
            own.add(tree.getSimpleName().toString());
            for (Tree member : tree.getMembers()) {
                if (member instanceof ClassTree) own.add(((ClassTree) member).getSimpleName().toString());
            }
            boolean inside = getCurrentPath().getParentPath().getLeaf() instanceof ClassTree;
            Set<Modifier> flags = tree.getModifiers().getFlags();
            checks.holds("rule 2: " + tree.getSimpleName(), classes == 1 || inside && flags.contains(Modifier.STATIC));
            int fields = 0;
            for (Tree member : tree.getMembers()) {
                checks.holds("rule 5: no initialiser block", !(member instanceof BlockTree));
                if (member instanceof VariableTree) {
                    Set<Modifier> f = ((VariableTree) member).getModifiers().getFlags();
                    if (!f.contains(Modifier.STATIC)) fields++;
                    else isConstant((VariableTree) member);
                }
            }
            checks.holds("rule 11: fields of " + tree.getSimpleName(), fields <= 20);
            return super.visitClass(tree, v);
        }

        private void isConstant(VariableTree field) {
            checks.holds("rule 5: " + field, field.getModifiers().getFlags().contains(Modifier.FINAL));
            boolean isArray = field.getType() instanceof ArrayTypeTree;
            boolean isWrittenOut = field.getInitializer() instanceof NewArrayTree
                    && ((NewArrayTree) field.getInitializer()).getInitializers() != null;
            checks.holds("rule 5: " + field + " is written out", !isArray || isWrittenOut);
        }

        private void isAllowed(Tree type) {
            String name = type.toString();
            checks.holds("rule 3: " + name, TYPES.contains(name) || own.contains(name));
        }

        @Override public Void visitVariable(VariableTree tree, Void v) {
            isAllowed(tree.getType());
            return super.visitVariable(tree, v);
        }

        @Override public Void visitAssignment(AssignmentTree tree, Void v) {
            if (tree.getVariable() instanceof ArrayAccessTree) {
                Tree array = ((ArrayAccessTree) tree.getVariable()).getExpression();
                Element e = trees.getElement(new TreePath(getCurrentPath(), array));
                checks.holds("rule 5: " + tree + " changes a constant", e == null || !e.getModifiers().contains(Modifier.STATIC));
            }
            return super.visitAssignment(tree, v);
        }

        @Override public Void visitForLoop(ForLoopTree tree, Void v) {
            checks.holds("rule 9: " + tree, tree.getCondition() != null && tree.getUpdate().size() == 1);
            return super.visitForLoop(tree, v);
        }

        @Override public Void visitWhileLoop(WhileLoopTree tree, Void v) {
            boolean literal = ((ParenthesizedTree) tree.getCondition()).getExpression() instanceof LiteralTree;
            checks.holds("rule 9: " + tree, !literal);
            return super.visitWhileLoop(tree, v);
        }

        @Override public Void visitNewArray(NewArrayTree tree, Void v) {
            checks.holds("rule 12: a call makes " + tree, makes);
            return super.visitNewArray(tree, v);
        }

        @Override public Void visitMethod(MethodTree tree, Void v) {
            if (tree.getReturnType() != null) isAllowed(tree.getReturnType());
            makes = tree.getReturnType() == null;
            Element e = trees.getElement(getCurrentPath());
            method = e.getEnclosingElement() + "." + e;
            calls.putIfAbsent(method, new TreeSet<>());
            SourcePositions at = trees.getSourcePositions();
            long from = unit.getLineMap().getLineNumber(at.getStartPosition(unit, tree));
            long to = unit.getLineMap().getLineNumber(at.getEndPosition(unit, tree));
            checks.holds("rule 11: length of " + method, to - from < 60);
            checks.holds("rule 11: parameters of " + method, tree.getParameters().size() <= 7);
            boolean isPublic = tree.getModifiers().getFlags().contains(Modifier.PUBLIC);
            checks.holds("rule 1: name of " + method, isPublic || !face.contains(tree.getName().toString()));
            super.visitMethod(tree, v);
            makes = true;
            return null;
        }

        @Override public Void visitMethodInvocation(MethodInvocationTree tree, Void v) {
            Element e = trees.getElement(new TreePath(getCurrentPath(), tree.getMethodSelect()));
            note(e, e.getEnclosingElement() + "." + e.getSimpleName());
            return super.visitMethodInvocation(tree, v);
        }

        @Override public Void visitNewClass(NewClassTree tree, Void v) {
            checks.holds("rule 2: no anonymous class", tree.getClassBody() == null);
            checks.holds("rule 12: a call makes " + tree, makes);
            checks.holds("rule 4: " + tree, own.contains(tree.getIdentifier().toString()));
            return super.visitNewClass(tree, v);
        }

        private void note(Element e, String name) {
            boolean own = name.startsWith("WordMender");
            if (own) calls.computeIfAbsent(method, k -> new TreeSet<>()).add(e.getEnclosingElement() + "." + e);
            else if (e.getKind() == ElementKind.METHOD) checks.holds("rule 4: " + name, ALLOWED.contains(name));
        }
    }
}
