import com.sun.source.tree.*;
import com.sun.source.util.*;
import java.io.*;
import java.net.URI;
import java.nio.file.*;
import java.util.*;
import java.util.concurrent.*;
import javax.tools.*;

/**
 * Breaks the class in one place after the other and tells which breaks EdgesTest does not see.
 * It is run by hand, from the project's folder, behind .ci/run: java -cp build/tests Mutants [FROM TO]
 * (lines of the source). Many breaks can't be seen: tests of indices that are never outside.
 */
public final class Mutants {
    private static final Path SOURCE = Path.of("src/main/java/WordMender.java");
    private static final Path CLASSES = Path.of("build/tests");
    private static final int SECONDS = 20;

    private record Mutant(int line, int from, int to, String instead) { }

    private static final JavaCompiler compiler = ToolProvider.getSystemJavaCompiler();
    private static String source;
    private static LineMap lines;

    public static void main(String[] args) throws Exception {
        source = Files.readString(SOURCE);
        int first = args.length > 0 ? Integer.parseInt(args[0]) : 1;
        int last = args.length > 1 ? Integer.parseInt(args[1]) : Integer.MAX_VALUE;
        List<Mutant> all = new ArrayList<>(mutants());
        all.removeIf(m -> m.line < first || m.line > last);
        PrintStream out = System.out;
        System.setOut(new PrintStream(OutputStream.nullOutputStream()));
        ExecutorService pool = Executors.newFixedThreadPool(Runtime.getRuntime().availableProcessors());
        List<Future<String>> fates = new ArrayList<>();
        for (Mutant m : all) fates.add(pool.submit(() -> fate(m)));
        Map<String, Integer> counts = new TreeMap<>();
        for (int k = 0; k < all.size(); k++) {
            String fate = fates.get(k).get();
            counts.merge(fate, 1, Integer::sum);
            if (fate.equals("lives")) out.println(told(all.get(k)));
        }
        out.println(all.size() + " mutants: " + counts);
        System.exit(0);
    }

    private static String told(Mutant m) {
        int start = source.lastIndexOf('\n', m.from) + 1;
        int end = source.indexOf('\n', m.to);
        String line = source.substring(start, m.from) + "[" + source.substring(m.from, m.to) + " -> " + m.instead + "]" + source.substring(m.to, end);
        return m.line + ": " + line.strip().replaceAll("\\s+", " ");
    }

    // ---- where the source can be broken

    private static List<Mutant> mutants() throws IOException {
        JavacTask task = (JavacTask) compiler.getTask(null, null, null, List.of("-proc:none"), null,
                List.of(text("WordMender", source)));
        CompilationUnitTree unit = task.parse().iterator().next();
        lines = unit.getLineMap();
        Finder finder = new Finder(unit, Trees.instance(task).getSourcePositions());
        finder.scan(unit, null);
        finder.all.sort(Comparator.comparingInt(m -> m.from));
        return finder.all;
    }

    private static final class Finder extends TreeScanner<Void, Void> {
        private static final Map<Tree.Kind, String[]> OPERATORS = Map.ofEntries(
                Map.entry(Tree.Kind.LESS_THAN, new String[] {"<", "<=", ">="}), Map.entry(Tree.Kind.LESS_THAN_EQUAL, new String[] {"<=", "<", ">"}),
                Map.entry(Tree.Kind.GREATER_THAN, new String[] {">", ">=", "<="}), Map.entry(Tree.Kind.GREATER_THAN_EQUAL, new String[] {">=", ">", "<"}),
                Map.entry(Tree.Kind.EQUAL_TO, new String[] {"==", "!="}), Map.entry(Tree.Kind.NOT_EQUAL_TO, new String[] {"!=", "=="}),
                Map.entry(Tree.Kind.CONDITIONAL_AND, new String[] {"&&", "||"}), Map.entry(Tree.Kind.CONDITIONAL_OR, new String[] {"||", "&&"}),
                Map.entry(Tree.Kind.PLUS, new String[] {"+", "-"}), Map.entry(Tree.Kind.MINUS, new String[] {"-", "+"}),
                Map.entry(Tree.Kind.MULTIPLY, new String[] {"*", "+"}));
        private final CompilationUnitTree unit;
        private final SourcePositions at;
        private final List<Mutant> all = new ArrayList<>();

        private Finder(CompilationUnitTree unit, SourcePositions at) {
            this.unit = unit;
            this.at = at;
        }

        private int start(Tree t) {
            return (int) at.getStartPosition(unit, t);
        }

        private int end(Tree t) {
            return (int) at.getEndPosition(unit, t);
        }

        private void note(int from, int to, String instead) {
            all.add(new Mutant((int) lines.getLineNumber(from), from, to, instead));
        }

        @Override public Void visitLiteral(LiteralTree t, Void v) {
            if (t.getKind() == Tree.Kind.INT_LITERAL) {
                int n = (Integer) t.getValue();
                note(start(t), end(t), "" + (n + 1));
                if (n > 0) note(start(t), end(t), "" + (n - 1));
            } else if (t.getKind() == Tree.Kind.BOOLEAN_LITERAL) {
                note(start(t), end(t), t.getValue().equals(true) ? "false" : "true");
            } else if (t.getKind() == Tree.Kind.CHAR_LITERAL) {
                note(start(t), end(t), "(char) (" + source.substring(start(t), end(t)) + " + 1)");
            }
            return super.visitLiteral(t, v);
        }

        @Override public Void visitBinary(BinaryTree t, Void v) {
            String[] signs = OPERATORS.get(t.getKind());
            if (signs != null) {
                int sign = source.indexOf(signs[0], end(t.getLeftOperand()));
                for (int k = 1; k < signs.length; k++) note(sign, sign + signs[0].length(), signs[k]);
            }
            return super.visitBinary(t, v);
        }

        @Override public Void visitUnary(UnaryTree t, Void v) {
            if (t.getKind() == Tree.Kind.LOGICAL_COMPLEMENT) note(start(t), start(t) + 1, "");
            return super.visitUnary(t, v);
        }

        @Override public Void visitExpressionStatement(ExpressionStatementTree t, Void v) {
            String s = source.substring(start(t), end(t));
            if (s.endsWith(";") && !s.matches("(?s)(this\\.)?\\w+ = .*")) note(start(t), end(t), ";");
            else if (s.endsWith(";")) note(start(t), end(t), "if (NONE == 0) " + s);
            return super.visitExpressionStatement(t, v);
        }

        @Override public Void visitMethodInvocation(MethodInvocationTree t, Void v) {
            String s = source.substring(start(t), end(t));
            if (s.startsWith("Math.min")) note(start(t), start(t) + 8, "Math.max");
            if (s.startsWith("Math.max")) note(start(t), start(t) + 8, "Math.min");
            return super.visitMethodInvocation(t, v);
        }

        @Override public Void visitConditionalExpression(ConditionalExpressionTree t, Void v) {
            note(start(t.getCondition()), end(t.getCondition()), "!(" + source.substring(start(t.getCondition()), end(t.getCondition())) + ")");
            return super.visitConditionalExpression(t, v);
        }

        @Override public Void visitReturn(ReturnTree t, Void v) {
            if (t.getExpression() == null) note(start(t), end(t), ";");
            return super.visitReturn(t, v);
        }
    }

    // ---- what becomes of one

    private static String fate(Mutant m) throws Exception {
        Map<String, byte[]> classes = compiled(source.substring(0, m.from) + m.instead + source.substring(m.to));
        if (classes == null) return "is not compiled";
        String[] fate = {"hangs"};
        Thread run = new Thread(() -> fate[0] = judged(classes));
        run.setDaemon(true);
        run.start();
        run.join(SECONDS * 1000L);
        return fate[0];
    }

    private static String judged(Map<String, byte[]> classes) {
        try {
            ClassLoader loader = new Loader(classes);
            Class<?> checks = loader.loadClass("Checks");
            var make = checks.getDeclaredConstructor();
            make.setAccessible(true);
            Object sums = make.newInstance();
            var all = loader.loadClass("EdgesTest").getDeclaredMethod("all", checks);
            all.setAccessible(true);
            all.invoke(null, sums);
            var wrong = checks.getDeclaredMethod("wrong");
            wrong.setAccessible(true);
            return (Integer) wrong.invoke(sums) > 0 ? "is seen" : "lives";
        } catch (ReflectiveOperationException | LinkageError e) {
            return "throws";
        }
    }

    private static Map<String, byte[]> compiled(String text) {
        Map<String, ByteArrayOutputStream> made = new HashMap<>();
        JavaFileManager files = new ForwardingJavaFileManager<>(compiler.getStandardFileManager(null, null, null)) {
            @Override public JavaFileObject getJavaFileForOutput(Location l, String name, JavaFileObject.Kind kind, FileObject sibling) {
                return new SimpleJavaFileObject(URI.create("mem:///" + name.replace('$', '_') + ".class"), kind) {
                    @Override public OutputStream openOutputStream() {
                        ByteArrayOutputStream bytes = new ByteArrayOutputStream();
                        made.put(name, bytes);
                        return bytes;
                    }
                };
            }
        };
        boolean done = compiler.getTask(Writer.nullWriter(), files, d -> { }, List.of("-proc:none"), null, List.of(text("WordMender", text))).call();
        if (!done) return null;
        Map<String, byte[]> classes = new HashMap<>();
        made.forEach((name, bytes) -> classes.put(name, bytes.toByteArray()));
        return classes;
    }

    private static JavaFileObject text(String name, String text) {
        return new SimpleJavaFileObject(URI.create("mem:///" + name + ".java"), JavaFileObject.Kind.SOURCE) {
            @Override public CharSequence getCharContent(boolean ignore) {
                return text;
            }
        };
    }

    /** The broken class, and the tests anew for it. */
    private static final class Loader extends ClassLoader {
        private final Map<String, byte[]> own;

        private Loader(Map<String, byte[]> own) {
            super(ClassLoader.getPlatformClassLoader());
            this.own = own;
        }

        @Override protected Class<?> findClass(String name) throws ClassNotFoundException {
            try {
                byte[] bytes = own.containsKey(name) ? own.get(name) : Files.readAllBytes(CLASSES.resolve(name + ".class"));
                return defineClass(name, bytes, 0, bytes.length);
            } catch (IOException e) {
                throw new ClassNotFoundException(name, e);
            }
        }
    }
}
