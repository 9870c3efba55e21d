import com.sun.source.tree.AssertTree;
import com.sun.source.tree.BinaryTree;
import com.sun.source.tree.CatchTree;
import com.sun.source.tree.ClassTree;
import com.sun.source.tree.CompilationUnitTree;
import com.sun.source.tree.CompoundAssignmentTree;
import com.sun.source.tree.EnhancedForLoopTree;
import com.sun.source.tree.LambdaExpressionTree;
import com.sun.source.tree.LineMap;
import com.sun.source.tree.LiteralTree;
import com.sun.source.tree.MemberReferenceTree;
import com.sun.source.tree.MethodInvocationTree;
import com.sun.source.tree.MethodTree;
import com.sun.source.tree.NewClassTree;
import com.sun.source.tree.SynchronizedTree;
import com.sun.source.tree.ThrowTree;
import com.sun.source.tree.Tree;
import com.sun.source.tree.TryTree;
import com.sun.source.tree.VariableTree;
import com.sun.source.util.JavacTask;
import com.sun.source.util.TreePath;
import com.sun.source.util.TreePathScanner;
import com.sun.source.util.Trees;
import java.io.File;
import java.util.ArrayList;
import java.util.HashMap;
import java.util.LinkedHashSet;
import java.util.List;
import java.util.Map;
import java.util.Set;
import java.util.TreeSet;
import javax.lang.model.element.Element;
import javax.lang.model.element.ElementKind;
import javax.lang.model.element.Modifier;
import javax.tools.JavaCompiler;
import javax.tools.StandardJavaFileManager;
import javax.tools.ToolProvider;

/** Those rules of LANGUAGE.md that can be read off the program's text. */
public final class LanguageTest {
    private static final String SOURCE = "src/main/java/NumberFormats.java";
    private static final Set<String> FACE = new TreeSet<>(List.of("feed", "end", "set", "reckon", "format", "illAt",
            "show", "showText", "output"));
    private static final Set<String> LIBRARY = Set.of("java.lang.String.length", "java.lang.String.charAt",
            "java.lang.String.indexOf", "java.lang.Math.max", "java.lang.Math.min", "java.lang.Math.abs",
            "java.lang.Math.floorDiv", "java.lang.Math.floorMod", "java.lang.System.arraycopy",
            "java.lang.Object.<init>", "java.lang.IllegalArgumentException.<init>",
            "java.lang.IllegalStateException.<init>");
    private static final Set<String> CONSTANTS = Set.of("int", "long", "boolean", "char", "java.lang.String", "int[]",
            "long[]", "char[]", "byte[]");

    private static final Map<String, Set<String>> CALLS = new HashMap<>();
    private static final Set<String> CLASSES = new LinkedHashSet<>();

    private static final class Scanner extends TreePathScanner<Void, String> {
        private final Trees trees;
        private final CompilationUnitTree unit;
        private final LineMap lines;

        Scanner(Trees trees, CompilationUnitTree unit) {
            this.trees = trees;
            this.unit = unit;
            this.lines = unit.getLineMap();
        }

        private Element here() {
            return trees.getElement(getCurrentPath());
        }

        private Element at(Tree tree) {
            return trees.getElement(new TreePath(getCurrentPath(), tree));
        }

        private String type(Tree tree) {
            return "" + trees.getTypeMirror(new TreePath(getCurrentPath(), tree));
        }

        private void rule(int rule, boolean kept, Tree tree, String what) {
            long line = lines.getLineNumber(trees.getSourcePositions().getStartPosition(unit, tree));
            Probe.due("rule " + rule + ", line " + line + ": " + what, kept, true);
        }

        @Override
        public Void visitClass(ClassTree tree, String method) {
            Element element = here();
            CLASSES.add("" + element);
            boolean outer = element.getEnclosingElement().getKind() == ElementKind.PACKAGE;
            Set<Modifier> m = element.getModifiers();
            rule(1, outer ? m.contains(Modifier.PUBLIC) && m.contains(Modifier.FINAL)
                    : m.contains(Modifier.STATIC) && !m.contains(Modifier.PUBLIC), tree, "class " + element);
            int fields = 0;
            for (Element member : element.getEnclosedElements()) {
                Set<Modifier> of = member.getModifiers();
                String name = "" + member.getSimpleName();
                boolean face = FACE.contains(name) || name.equals("NONE") || member.getKind() == ElementKind.CONSTRUCTOR;
                if (outer && !member.getKind().isClass()) {
                    rule(1, face == of.contains(Modifier.PUBLIC) && face != of.contains(Modifier.PRIVATE), tree, name);
                } else if (!outer && member.getKind() == ElementKind.METHOD) {
                    rule(1, !FACE.contains(name), tree, element + " names a method " + name);
                }
                boolean field = member.getKind() == ElementKind.FIELD;
                if (field && of.contains(Modifier.STATIC)) {
                    rule(5, of.contains(Modifier.FINAL) && CONSTANTS.contains("" + member.asType()), tree, name);
                } else if (field) {
                    fields++;
                }
            }
            rule(11, fields <= 20, tree, element + " has " + fields + " fields");
            return super.visitClass(tree, null);
        }

        @Override
        public Void visitMethod(MethodTree tree, String method) {
            Element element = here();
            String name = element.getEnclosingElement() + "." + element.getSimpleName();
            long first = lines.getLineNumber(trees.getSourcePositions().getStartPosition(unit, tree));
            long last = lines.getLineNumber(Math.max(0, trees.getSourcePositions().getEndPosition(unit, tree)));
            rule(11, last - first < 60, tree, name + " is long");
            rule(11, tree.getParameters().size() <= 7, tree, name + " has many parameters");
            CALLS.computeIfAbsent(name, k -> new TreeSet<>());
            return super.visitMethod(tree, name);
        }

        private void call(String method, Element called, Tree tree) {
            String owner = "" + called.getEnclosingElement();
            String name = owner + "." + called.getSimpleName();
            if (owner.startsWith("NumberFormats")) {
                if (method != null) {
                    CALLS.computeIfAbsent(method, k -> new TreeSet<>()).add(name);
                }
            } else {
                rule(4, LIBRARY.contains(name), tree, "call of " + name);
            }
        }

        @Override
        public Void visitMethodInvocation(MethodInvocationTree tree, String method) {
            call(method, at(tree), tree);
            if (("" + tree.getMethodSelect()).startsWith("Math.")) {
                for (Tree argument : tree.getArguments()) {
                    rule(3, !type(argument).equals("double"), tree, "Math on a double");
                }
            }
            return super.visitMethodInvocation(tree, method);
        }

        @Override
        public Void visitNewClass(NewClassTree tree, String method) {
            call(method, at(tree), tree);
            return super.visitNewClass(tree, method);
        }

        @Override
        public Void visitThrow(ThrowTree tree, String method) {
            boolean made = tree.getExpression() instanceof NewClassTree n
                    && n.getArguments().stream().allMatch(a -> a instanceof LiteralTree);
            rule(6, made && !method.endsWith("<init>"), tree, "throw");
            return super.visitThrow(tree, method);
        }

        @Override
        public Void visitBinary(BinaryTree tree, String method) {
            boolean joins = tree.getKind() == Tree.Kind.PLUS && type(tree).equals("java.lang.String");
            rule(10, !joins, tree, "texts joined by +");
            boolean rest = tree.getKind() == Tree.Kind.REMAINDER
                    && (type(tree).equals("double") || type(tree).equals("float"));
            rule(3, !rest, tree, "% on doubles");
            return super.visitBinary(tree, method);
        }

        @Override
        public Void visitCompoundAssignment(CompoundAssignmentTree tree, String method) {
            rule(10, !type(tree.getVariable()).equals("java.lang.String"), tree, "texts joined by +=");
            return super.visitCompoundAssignment(tree, method);
        }

        @Override
        public Void visitLiteral(LiteralTree tree, String method) {
            if (tree.getValue() instanceof String s) {
                rule(4, s.chars().allMatch(c -> c >= 1 && c <= 127), tree, "signs of a constant");
            }
            return super.visitLiteral(tree, method);
        }

        @Override
        public Void visitVariable(VariableTree tree, String method) {
            String type = "" + here().asType();
            boolean known = type.startsWith("NumberFormats")
                    || type.matches("(int|long|short|byte|char|boolean|double|java\\.lang\\.String)(\\[\\])?");
            rule(3, known, tree, "type " + type);
            return super.visitVariable(tree, method);
        }

        private Void never(int rule, Tree tree) {
            rule(rule, false, tree, "" + tree.getKind());
            return null;
        }

        @Override
        public Void visitLambdaExpression(LambdaExpressionTree tree, String method) {
            return never(2, tree);
        }

        @Override
        public Void visitMemberReference(MemberReferenceTree tree, String method) {
            return never(2, tree);
        }

        @Override
        public Void visitTry(TryTree tree, String method) {
            return never(6, tree);
        }

        @Override
        public Void visitCatch(CatchTree tree, String method) {
            return never(6, tree);
        }

        @Override
        public Void visitSynchronized(SynchronizedTree tree, String method) {
            return never(6, tree);
        }

        @Override
        public Void visitAssert(AssertTree tree, String method) {
            return never(6, tree);
        }

        @Override
        public Void visitEnhancedForLoop(EnhancedForLoopTree tree, String method) {
            return never(12, tree);
        }
    }

    /** How deep calls go from a method on; a method that calls itself counts as endless. */
    private static int depth(String method, List<String> open) {
        if (open.contains(method)) {
            Probe.due("rule 8: " + method + " calls itself by " + open, true, false);
            return 0;
        }
        open.add(method);
        int deepest = 0;
        for (String called : CALLS.getOrDefault(method, Set.of())) {
            deepest = Math.max(deepest, depth(called, open));
        }
        open.remove(method);
        return deepest + 1;
    }

    public static void main(String[] args) throws Exception {
        JavaCompiler compiler = ToolProvider.getSystemJavaCompiler();
        StandardJavaFileManager files = compiler.getStandardFileManager(null, null, null);
        JavacTask task = (JavacTask) compiler.getTask(null, files, null, List.of("-proc:none"), null,
                files.getJavaFileObjects(new File(SOURCE)));
        List<CompilationUnitTree> units = new ArrayList<>();
        task.parse().forEach(units::add);
        task.analyze();
        for (CompilationUnitTree unit : units) {
            Probe.due("rule 1: imports", unit.getImports().size(), 0);
            Probe.due("rule 1: classes outside", unit.getTypeDecls().size(), 1);
            new Scanner(Trees.instance(task), unit).scan(unit, null);
        }
        Probe.due("rule 11: some twelve classes: " + CLASSES, CLASSES.size() <= 12, true);
        for (String method : CALLS.keySet()) {
            int depth = depth(method, new ArrayList<>());
            Probe.due("rule 11: depth of " + method + " is " + depth, depth <= 8, true);
            if (args.length > 0) {
                System.out.println(depth + " " + method);
            }
        }
        Probe.finish();
    }
}
