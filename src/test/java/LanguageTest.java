import com.sun.source.tree.AssertTree;
import com.sun.source.tree.ClassTree;
import com.sun.source.tree.CompilationUnitTree;
import com.sun.source.tree.DoWhileLoopTree;
import com.sun.source.tree.ForLoopTree;
import com.sun.source.tree.ImportTree;
import com.sun.source.tree.InstanceOfTree;
import com.sun.source.tree.LambdaExpressionTree;
import com.sun.source.tree.MemberReferenceTree;
import com.sun.source.tree.MethodInvocationTree;
import com.sun.source.tree.MethodTree;
import com.sun.source.tree.NewArrayTree;
import com.sun.source.tree.NewClassTree;
import com.sun.source.tree.SynchronizedTree;
import com.sun.source.tree.ThrowTree;
import com.sun.source.tree.Tree;
import com.sun.source.tree.TryTree;
import com.sun.source.tree.TypeCastTree;
import com.sun.source.tree.VariableTree;
import com.sun.source.tree.WhileLoopTree;
import com.sun.source.util.JavacTask;
import com.sun.source.util.SourcePositions;
import com.sun.source.util.TreePathScanner;
import com.sun.source.util.Trees;
import java.io.File;
import java.util.ArrayList;
import java.util.HashMap;
import java.util.List;
import java.util.Map;
import java.util.Set;
import java.util.TreeSet;
import javax.lang.model.element.Element;
import javax.lang.model.element.Modifier;
import javax.tools.JavaCompiler;
import javax.tools.StandardJavaFileManager;
import javax.tools.ToolProvider;

/** The rules of LANGUAGE.md that can be counted in the source. */
final class LanguageTest {
    private static final String SOURCE = "src/main/java/ForestLegs.java";
    private static final Set<String> LIBRARY = Set.of("Math.max", "Math.min", "Math.abs", "System.arraycopy", "Arrays.fill",
        "Object.<init>", "NoSuchElementException.<init>");
    private static final Set<String> IMPORTS = Set.of("java.util.Arrays", "java.util.NoSuchElementException");
    private static final Set<String> TYPES = Set.of("int", "boolean", "int[]");
    private static final Check check = new Check();

    private static CompilationUnitTree unit;
    private static Trees trees;
    private static int classes = 0;
    private static final Map<Element, Set<Element>> calls = new HashMap<>();

    public static void main(String[] args) throws Exception {
        JavaCompiler compiler = ToolProvider.getSystemJavaCompiler();
        try (StandardJavaFileManager files = compiler.getStandardFileManager(null, null, null)) {
            JavacTask task = (JavacTask) compiler.getTask(null, files, null, List.of("-proc:none"), null,
                files.getJavaFileObjects(new File(SOURCE)));
            unit = task.parse().iterator().next();
            task.analyze();
            trees = Trees.instance(task);
            new Rules().scan(unit, null);
        }
        check.due("no package", unit.getPackageName() == null ? 1 : 0, 1);
        check.due("rule 11: classes, at most 12", classes <= 12 ? 1 : 0, 1);
        check.due("calls were found", calls.size() > 100 ? 1 : 0, 1);
        for (Element method : calls.keySet()) {
            List<Element> chain = longest(method, new ArrayList<>());
            check.due("rule 11: calls open at once, " + chain, chain.size() <= 7 ? 1 : 0, 1);
        }
        check.end();
    }

    /** The longest row of calls from a method on; a recursion is told as a fault. */
    private static List<Element> longest(Element method, List<Element> open) {
        List<Element> best = new ArrayList<>();
        if (open.contains(method)) {
            check.due("rule 8: no recursion, " + open, 1, 0);
            return best;
        }
        open.add(method);
        for (Element next : calls.getOrDefault(method, Set.of())) {
            List<Element> chain = longest(next, open);
            if (chain.size() > best.size()) {
                best = chain;
            }
        }
        open.remove(open.size() - 1);
        best.add(0, method);
        return best;
    }

    private static final class Rules extends TreePathScanner<Void, Void> {
        private Element method = null;
        private boolean making = false;

        private long lines(Tree tree) {
            SourcePositions places = trees.getSourcePositions();
            return unit.getLineMap().getLineNumber(places.getEndPosition(unit, tree))
                - unit.getLineMap().getLineNumber(places.getStartPosition(unit, tree)) + 1;
        }

        private void none(String rule, Tree tree) {
            check.due(rule + " in line " + unit.getLineMap().getLineNumber(
                trees.getSourcePositions().getStartPosition(unit, tree)) + ": " + tree, 1, 0);
        }

        @Override
        public Void visitClass(ClassTree tree, Void nothing) {
            classes++;
            check.due("rule 2: no local class, " + tree.getSimpleName(), method == null ? 1 : 0, 1);
            int fields = 0;
            for (Tree member : tree.getMembers()) {
                if (member instanceof VariableTree field) {
                    boolean constant = field.getModifiers().getFlags().contains(Modifier.STATIC);
                    fields += constant ? 0 : 1;
                    check.due("rule 5: a static field is final and an int, " + field.getName(),
                        !constant || field.getModifiers().getFlags().contains(Modifier.FINAL)
                            && field.getType().toString().equals("int") ? 1 : 0, 1);
                }
                check.due("rule 5: no initialiser block", member.getKind() == Tree.Kind.BLOCK ? 1 : 0, 0);
            }
            check.due("rule 11: fields of " + tree.getSimpleName() + ", at most 20", fields <= 20 ? 1 : 0, 1);
            return super.visitClass(tree, nothing);
        }

        @Override
        public Void visitMethod(MethodTree tree, Void nothing) {
            method = trees.getElement(getCurrentPath());
            making = tree.getReturnType() == null;
            calls.computeIfAbsent(method, key -> new java.util.LinkedHashSet<>());
            check.due("rule 11: lines of " + tree.getName() + ", at most 60", lines(tree) <= 60 ? 1 : 0, 1);
            check.due("rule 11: parameters of " + tree.getName(), tree.getParameters().size() <= 7 ? 1 : 0, 1);
            super.visitMethod(tree, nothing);
            method = null;
            making = false;
            return null;
        }

        @Override
        public Void visitMethodInvocation(MethodInvocationTree tree, Void nothing) {
            Element called = trees.getElement(getCurrentPath());
            String owner = called.getEnclosingElement().toString();
            if (owner.startsWith("ForestLegs")) {
                if (method != null) {
                    calls.get(method).add(called);
                }
            } else {
                library(called);
            }
            return super.visitMethodInvocation(tree, nothing);
        }

        private void library(Element called) {
            String name = called.getEnclosingElement().getSimpleName() + "." + called.getSimpleName();
            check.due("rule 4: " + name, LIBRARY.contains(name) ? 1 : 0, 1);
        }

        @Override
        public Void visitNewClass(NewClassTree tree, Void nothing) {
            Element made = trees.getElement(getCurrentPath());
            if (!made.getEnclosingElement().toString().startsWith("ForestLegs")) {
                library(made);
            } else if (method != null && !making) {
                none("an object made by a call", tree);
            }
            return super.visitNewClass(tree, nothing);
        }

        @Override
        public Void visitNewArray(NewArrayTree tree, Void nothing) {
            if (method != null && !making) {
                none("an array made by a call", tree);
            }
            return super.visitNewArray(tree, nothing);
        }

        @Override
        public Void visitImport(ImportTree tree, Void nothing) {
            String name = tree.getQualifiedIdentifier().toString();
            check.due("rule 4: import " + name, !tree.isStatic() && IMPORTS.contains(name) ? 1 : 0, 1);
            return super.visitImport(tree, nothing);
        }

        /** No text, list, long or double is needed here: ints, booleans, rows of ints and classes of its own. */
        @Override
        public Void visitVariable(VariableTree tree, Void nothing) {
            String type = trees.getTypeMirror(getCurrentPath()).toString();
            boolean fine = TYPES.contains(type) || type.startsWith("ForestLegs.");
            check.due("rule 3: " + type + " " + tree.getName(), fine ? 1 : 0, 1);
            return super.visitVariable(tree, nothing);
        }

        @Override
        public Void visitForLoop(ForLoopTree tree, Void nothing) {
            boolean bound = tree.getCondition() != null && tree.getUpdate().size() == 1;
            check.due("rule 9: for (..; " + tree.getCondition() + "; ..)", bound ? 1 : 0, 1);
            return super.visitForLoop(tree, nothing);
        }

        /** The counter against its bound stands first, so that the end is seen at once. */
        @Override
        public Void visitWhileLoop(WhileLoopTree tree, Void nothing) {
            String condition = tree.getCondition().toString();
            check.due("rule 9: while " + condition, condition.matches("\\(\\w+ [<>]=? \\w+( && .*)?\\)") ? 1 : 0, 1);
            return super.visitWhileLoop(tree, nothing);
        }

        @Override
        public Void visitDoWhileLoop(DoWhileLoopTree tree, Void nothing) {
            none("rule 9: do", tree);
            return null;
        }

        @Override
        public Void visitTypeCast(TypeCastTree tree, Void nothing) {
            none("rule 6: cast", tree);
            return null;
        }

        @Override
        public Void visitInstanceOf(InstanceOfTree tree, Void nothing) {
            none("rule 6: instanceof", tree);
            return null;
        }

        @Override
        public Void visitThrow(ThrowTree tree, Void nothing) {
            check.due("rule 6: only named throws", method.getSimpleName().toString(), "named");
            return super.visitThrow(tree, nothing);
        }

        @Override
        public Void visitTry(TryTree tree, Void nothing) {
            none("rule 6: try", tree);
            return null;
        }

        @Override
        public Void visitLambdaExpression(LambdaExpressionTree tree, Void nothing) {
            none("rule 2: lambda", tree);
            return null;
        }

        @Override
        public Void visitMemberReference(MemberReferenceTree tree, Void nothing) {
            none("rule 2: method reference", tree);
            return null;
        }

        @Override
        public Void visitAssert(AssertTree tree, Void nothing) {
            none("rule 6: assert", tree);
            return null;
        }

        @Override
        public Void visitSynchronized(SynchronizedTree tree, Void nothing) {
            none("rule 6: synchronized", tree);
            return null;
        }
    }
}
