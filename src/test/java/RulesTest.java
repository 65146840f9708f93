import com.sun.source.tree.BinaryTree;
import com.sun.source.tree.ClassTree;
import com.sun.source.tree.CompilationUnitTree;
import com.sun.source.tree.ImportTree;
import com.sun.source.tree.LambdaExpressionTree;
import com.sun.source.tree.MemberReferenceTree;
import com.sun.source.tree.MethodInvocationTree;
import com.sun.source.tree.MethodTree;
import com.sun.source.tree.NewClassTree;
import com.sun.source.tree.Tree;
import com.sun.source.tree.TryTree;
import com.sun.source.tree.VariableTree;
import com.sun.source.util.JavacTask;
import com.sun.source.util.TreePathScanner;
import com.sun.source.util.Trees;
import java.io.File;
import java.io.IOException;
import java.util.ArrayList;
import java.util.List;
import java.util.Map;
import java.util.Set;
import java.util.TreeMap;
import java.util.TreeSet;
import javax.lang.model.element.Element;
import javax.lang.model.element.Modifier;
import javax.lang.model.type.TypeKind;
import javax.tools.JavaCompiler;
import javax.tools.StandardJavaFileManager;
import javax.tools.ToolProvider;

/** LANGUAGE.md's rules that can be counted in the source: rules 2, 4, 5, 6, 8, 11 and 12. */
public final class RulesTest {
    private static final Check CHECK = new Check("RulesTest");
    private static final int DEEPEST = 8;

    /** All of the library that the class uses, and rule 4 allows. */
    private static final Set<String> LIBRARY = Set.of("Math.min", "Math.max", "Math.floorMod", "Integer.bitCount",
        "System.arraycopy", "String.length", "String.charAt");

    private final CompilationUnitTree unit;
    private final Trees trees;
    private final Map<String, Set<String>> calls = new TreeMap<>();
    private int classes;

    private RulesTest(CompilationUnitTree unit, Trees trees) {
        this.unit = unit;
        this.trees = trees;
    }

    /** Where the file is, .ci/run tells by -Dsource. */
    public static void main(String[] args) throws IOException {
        String source = System.getProperty("source", "src/main/java/SeanceStreet.java");
        JavaCompiler compiler = ToolProvider.getSystemJavaCompiler();
        try (StandardJavaFileManager files = compiler.getStandardFileManager(null, null, null)) {
            JavacTask task = (JavacTask) compiler.getTask(null, files, null, List.of("-proc:none"), null,
                files.getJavaFileObjects(new File(source)));
            CompilationUnitTree unit = task.parse().iterator().next();
            task.analyze();
            RulesTest test = new RulesTest(unit, Trees.instance(task));
            test.new Looker().scan(unit, null);
            test.depths();
            CHECK.due("rule 11: some twelve classes", test.classes <= 13, true);
        }
        CHECK.end();
    }

    private void depths() {
        for (String name : calls.keySet()) {
            List<String> way = deepest(name, new ArrayList<>());
            CHECK.due("rule 11: calls at most eight deep: " + way, way.size() <= DEEPEST, true);
        }
    }

    private List<String> deepest(String name, List<String> open) {
        List<String> best = new ArrayList<>();
        CHECK.due("rule 8: no recursion here: " + name, open.contains(name), false);
        if (!open.contains(name)) {
            open.add(name);
            for (String next : calls.getOrDefault(name, Set.of())) {
                List<String> way = deepest(next, open);
                best = way.size() > best.size() ? way : best;
            }
            open.remove(name);
        }
        List<String> whole = new ArrayList<>(List.of(name));
        whole.addAll(best);
        return whole;
    }

    private long lineOf(Tree tree, boolean end) {
        var places = trees.getSourcePositions();
        long at = end ? places.getEndPosition(unit, tree) : places.getStartPosition(unit, tree);
        return unit.getLineMap().getLineNumber(at);
    }

    /** Looks at every part of the source, the method it stands in being at hand. */
    private final class Looker extends TreePathScanner<Void, Void> {
        private String method = "";

        @Override
        public Void visitImport(ImportTree tree, Void none) {
            CHECK.due("rule 4: " + tree, tree.getQualifiedIdentifier().toString()
                .equals("java.util.NoSuchElementException"), true);
            return super.visitImport(tree, none);
        }

        @Override
        public Void visitClass(ClassTree tree, Void none) {
            classes++;
            long fields = tree.getMembers().stream().filter(m -> m instanceof VariableTree v
                && !v.getModifiers().getFlags().contains(Modifier.STATIC)).count();
            CHECK.due("rule 11: some twenty fields of " + tree.getSimpleName(), fields <= 20, true);
            CHECK.due("rule 2: no class in a method: " + tree.getSimpleName(), method.isEmpty(), true);
            boolean hasBlock = tree.getMembers().stream().anyMatch(m -> m.getKind() == Tree.Kind.BLOCK);
            CHECK.due("rule 5: no block of " + tree.getSimpleName(), hasBlock, false);
            return super.visitClass(tree, none);
        }

        @Override
        public Void visitVariable(VariableTree tree, Void none) {
            Set<Modifier> flags = tree.getModifiers().getFlags();
            if (flags.contains(Modifier.STATIC)) {
                CHECK.due("rule 5: static and final: " + tree, flags.contains(Modifier.FINAL), true);
            }
            return super.visitVariable(tree, none);
        }

        @Override
        public Void visitMethod(MethodTree tree, Void none) {
            Element self = trees.getElement(getCurrentPath());
            method = nameOf(self);
            calls.computeIfAbsent(method, k -> new TreeSet<>());
            CHECK.due("rule 11: seven parameters: " + method, tree.getParameters().size() <= 7, true);
            CHECK.due("rule 11: sixty lines: " + method, lineOf(tree, true) - lineOf(tree, false) < 60, true);
            super.visitMethod(tree, none);
            method = "";
            return null;
        }

        private String nameOf(Element call) {
            return call.getEnclosingElement().getSimpleName() + "." + call.getSimpleName();
        }

        @Override
        public Void visitMethodInvocation(MethodInvocationTree tree, Void none) {
            Element called = trees.getElement(getCurrentPath());
            String name = nameOf(called);
            boolean isOwn = trees.getPath(called) != null;
            if (!isOwn && !name.equals("Object.<init>")) {
                CHECK.due("rule 4: " + name, LIBRARY.contains(name), true);
            }
            if (!method.isEmpty() && !name.equals("Object.<init>")) {
                calls.get(method).add(name);
            }
            return super.visitMethodInvocation(tree, none);
        }

        @Override
        public Void visitNewClass(NewClassTree tree, Void none) {
            boolean isThrown = getCurrentPath().getParentPath().getLeaf().getKind() == Tree.Kind.THROW;
            boolean isMaking = method.isEmpty() || method.endsWith(".<init>");
            CHECK.due("rule 12: made in " + method + ": " + tree, isThrown || isMaking, true);
            return super.visitNewClass(tree, none);
        }

        @Override
        public Void visitLambdaExpression(LambdaExpressionTree tree, Void none) {
            CHECK.due("rule 2: no lambda: " + tree, false, true);
            return super.visitLambdaExpression(tree, none);
        }

        @Override
        public Void visitMemberReference(MemberReferenceTree tree, Void none) {
            CHECK.due("rule 2: no method reference: " + tree, false, true);
            return super.visitMemberReference(tree, none);
        }

        @Override
        public Void visitTry(TryTree tree, Void none) {
            CHECK.due("rule 6: nothing is caught here: " + tree, false, true);
            return super.visitTry(tree, none);
        }

        @Override
        public Void visitBinary(BinaryTree tree, Void none) {
            boolean isText = trees.getTypeMirror(getCurrentPath()).getKind() == TypeKind.DECLARED;
            CHECK.due("rule 10: no text joined by +: " + tree, isText, false);
            return super.visitBinary(tree, none);
        }
    }
}
