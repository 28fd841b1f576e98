import com.sun.source.tree.*;
import com.sun.source.util.*;
import java.nio.file.Files;
import java.nio.file.Path;
import java.util.*;
import javax.lang.model.element.Modifier;
import javax.tools.JavaCompiler;
import javax.tools.ToolProvider;

/** Holds the program's file against the rules of LANGUAGE.md that can be seen in its tree. */
public final class LanguageTests {
    private static final Path FILE = Path.of("src/main/java/WordLearner.java");
    private static final Set<String> FACE = Set.of("feed", "machine", "word", "fault", "accept", "move", "of", "moved",
        "ask", "behind", "many", "share", "differ", "differs", "couples", "letter", "remembered", "alike", "begin",
        "step", "learn", "brief", "test", "registers", "goes", "stands", "guess", "guessed", "refutes", "splits",
        "spare", "count");
    private static final Set<String> LIBRARY = Set.of("Math.min", "Math.max", "Arrays.fill", "System.arraycopy");

    private static int wrong = 0;
    private static final Map<String, Set<String>> calls = new TreeMap<>();

    private static void rule(int number, boolean kept, String what) {
        if (!kept) {
            wrong++;
            System.out.println("rule " + number + ": " + what);
        }
    }

    public static void main(String[] args) throws Exception {
        JavaCompiler compiler = ToolProvider.getSystemJavaCompiler();
        var files = compiler.getStandardFileManager(null, null, null);
        JavacTask task = (JavacTask) compiler.getTask(null, files, null, null, null, files.getJavaFileObjects(FILE));
        CompilationUnitTree unit = task.parse().iterator().next();
        rule(0, unit.getPackage() == null, "a package line");
        for (ImportTree i : unit.getImports()) {
            rule(4, i.toString().trim().equals("import java.util.Arrays;"), i.toString());
        }
        rule(1, unit.getTypeDecls().size() == 1, "more than one class at the top");
        new Checker(unit, Trees.instance(task).getSourcePositions()).scan(unit, null);
        rule(11, Checker.classes <= 12, Checker.classes + " classes");
        for (String method : calls.keySet()) {
            int depth = depthOf(method, new ArrayDeque<>());
            rule(11, depth <= 8, method + " goes " + depth + " deep");
        }
        for (String line : Files.readAllLines(FILE)) {
            rule(0, line.chars().allMatch(c -> c >= 32 && c < 127), "a sign that is not plain: " + line);
        }
        System.out.println(wrong == 0 ? "the rules are kept" : wrong + " rules are not kept");
        if (wrong != 0) {
            System.exit(1);
        }
    }

    /** By names alone, so that it may only be too deep. */
    private static int depthOf(String method, Deque<String> open) {
        if (open.contains(method)) {
            return 0;
        }
        open.push(method);
        int most = 0;
        for (String called : calls.getOrDefault(method, Set.of())) {
            if (calls.containsKey(called)) {
                most = Math.max(most, depthOf(called, open));
            }
        }
        open.pop();
        return most + 1;
    }

    private static final class Checker extends TreePathScanner<Void, Void> {
        static int classes = 0;
        private final CompilationUnitTree unit;
        private final SourcePositions positions;
        private String method = null;

        Checker(CompilationUnitTree unit, SourcePositions positions) {
            this.unit = unit;
            this.positions = positions;
        }

        private long line(long position) {
            return unit.getLineMap().getLineNumber(position);
        }

        @Override
        public Void visitClass(ClassTree c, Void v) {
            classes++;
            boolean outer = c.getSimpleName().contentEquals("WordLearner");
            Set<Modifier> flags = c.getModifiers().getFlags();
            rule(2, outer || flags.contains(Modifier.STATIC), c.getSimpleName() + " is not static");
            int fields = 0;
            for (Tree member : c.getMembers()) {
                if (member instanceof VariableTree f) {
                    boolean constant = f.getModifiers().getFlags().contains(Modifier.STATIC);
                    fields += constant ? 0 : 1;
                    rule(5, !constant || f.getModifiers().getFlags().contains(Modifier.FINAL), f.getName() + " changes");
                    boolean face = f.getModifiers().getFlags().contains(Modifier.PUBLIC) && f.getName().contentEquals("NONE");
                    rule(1, !outer || face || f.getModifiers().getFlags().contains(Modifier.PRIVATE), "field " + f.getName());
                }
                rule(5, !(member instanceof BlockTree), "an initialiser block");
            }
            rule(11, fields <= 20, c.getSimpleName() + " has " + fields + " fields");
            return super.visitClass(c, v);
        }

        @Override
        public Void visitMethod(MethodTree m, Void v) {
            String name = m.getName().toString();
            Set<Modifier> flags = m.getModifiers().getFlags();
            boolean outer = ((ClassTree) getCurrentPath().getParentPath().getLeaf()).getSimpleName().contentEquals("WordLearner");
            boolean isPublic = flags.contains(Modifier.PUBLIC);
            boolean made = name.equals("<init>");
            rule(1, isPublic == (outer && (FACE.contains(name) || made)), "the face and " + name);
            rule(1, !outer || isPublic || flags.contains(Modifier.PRIVATE), name + " is not private");
            rule(1, made || outer && isPublic || !FACE.contains(name), name + " bears a name of the face");
            rule(11, m.getParameters().size() <= 7, name + " takes too much");
            long lines = line(positions.getEndPosition(unit, m)) - line(positions.getStartPosition(unit, m)) + 1;
            rule(11, lines <= 60, name + " has " + lines + " lines");
            method = made ? null : name;
            if (method != null) {
                calls.computeIfAbsent(method, k -> new TreeSet<>());
            }
            super.visitMethod(m, v);
            method = null;
            return null;
        }

        @Override
        public Void visitMethodInvocation(MethodInvocationTree call, Void v) {
            String select = call.getMethodSelect().toString();
            String name = select.substring(select.lastIndexOf('.') + 1);
            if (select.matches("[A-Z]\\w*\\.\\w+") && !select.matches("(Machine|Asker)\\..*")) {
                rule(4, LIBRARY.contains(select), select);
            }
            rule(4, !name.endsWith("Exact"), select);
            if (method != null) {
                calls.get(method).add(name);
            }
            return super.visitMethodInvocation(call, v);
        }

        @Override
        public Void visitNewClass(NewClassTree made, Void v) {
            rule(12, method == null, "an object is made in " + method);
            return super.visitNewClass(made, v);
        }

        @Override
        public Void visitNewArray(NewArrayTree made, Void v) {
            rule(12, method == null, "an array is made in " + method);
            rule(3, made.getDimensions().size() < 2, "an array of two dimensions");
            return super.visitNewArray(made, v);
        }

        @Override
        public Void visitThrow(ThrowTree t, Void v) {
            rule(6, false, "throw");
            return null;
        }

        @Override
        public Void visitTry(TryTree t, Void v) {
            rule(6, false, "try");
            return null;
        }

        @Override
        public Void visitSynchronized(SynchronizedTree t, Void v) {
            rule(6, false, "synchronized");
            return null;
        }

        @Override
        public Void visitAssert(AssertTree t, Void v) {
            rule(6, false, "assert");
            return null;
        }

        @Override
        public Void visitLambdaExpression(LambdaExpressionTree t, Void v) {
            rule(2, false, "a lambda");
            return null;
        }

        @Override
        public Void visitMemberReference(MemberReferenceTree t, Void v) {
            rule(2, false, "a method reference");
            return null;
        }

        @Override
        public Void visitAnnotation(AnnotationTree t, Void v) {
            rule(4, false, "an annotation");
            return null;
        }
    }
}
