import com.sun.source.tree.AssertTree;
import com.sun.source.tree.ClassTree;
import com.sun.source.tree.CompilationUnitTree;
import com.sun.source.tree.DoWhileLoopTree;
import com.sun.source.tree.ExpressionTree;
import com.sun.source.tree.ForLoopTree;
import com.sun.source.tree.IdentifierTree;
import com.sun.source.tree.LambdaExpressionTree;
import com.sun.source.tree.LiteralTree;
import com.sun.source.tree.MemberReferenceTree;
import com.sun.source.tree.MemberSelectTree;
import com.sun.source.tree.MethodInvocationTree;
import com.sun.source.tree.MethodTree;
import com.sun.source.tree.NewClassTree;
import com.sun.source.tree.SynchronizedTree;
import com.sun.source.tree.ThrowTree;
import com.sun.source.tree.Tree;
import com.sun.source.tree.TryTree;
import com.sun.source.tree.TypeCastTree;
import com.sun.source.tree.VariableTree;
import com.sun.source.tree.WhileLoopTree;
import com.sun.source.util.JavacTask;
import com.sun.source.util.TreePath;
import com.sun.source.util.TreePathScanner;
import com.sun.source.util.Trees;
import java.io.IOException;
import java.nio.file.Path;
import java.util.ArrayList;
import java.util.HashMap;
import java.util.HashSet;
import java.util.List;
import java.util.Map;
import java.util.Set;
import javax.lang.model.element.Element;
import javax.lang.model.element.ElementKind;
import javax.lang.model.element.Modifier;
import javax.lang.model.element.TypeElement;
import javax.lang.model.type.ArrayType;
import javax.lang.model.type.TypeKind;
import javax.lang.model.type.TypeMirror;
import javax.tools.JavaCompiler;
import javax.tools.StandardJavaFileManager;
import javax.tools.ToolProvider;

/** The class keeps to those rules of LANGUAGE.md that can be seen in its text; the numbers are those of the rules. */
public final class LanguageTest {
    private static final Path SOURCE = Path.of("src", "main", "java", "StackBytes.java");
    private static final int MOST_LINES = 60;
    private static final int MOST_PARAMETERS = 7;
    private static final int MOST_DEEP = 8;
    private static final int MOST_CLASSES = 12;
    private static final int MOST_FIELDS = 20;

    /** Of the library, what the class uses now; all of it stands in rule 4. */
    private static final Set<String> LIBRARY = Set.of("java.lang.Math.max", "java.lang.Math.min",
        "java.lang.System.arraycopy", "java.util.Arrays.copyOf", "java.lang.Object.<init>");

    public static void main(String[] args) throws IOException {
        JavaCompiler compiler = ToolProvider.getSystemJavaCompiler();
        if (compiler == null) {
            System.out.println("this java has no compiler inside: the text is not looked at");
            return;
        }
        try (StandardJavaFileManager files = compiler.getStandardFileManager(null, null, null)) {
            JavacTask task = (JavacTask) compiler.getTask(null, files, null, List.of("--release", "17"), null,
                files.getJavaFileObjects(SOURCE));
            Iterable<? extends CompilationUnitTree> units = task.parse();
            task.analyze();
            for (CompilationUnitTree unit : units) {
                Reading reading = new Reading(unit, Trees.instance(task));
                reading.scan(unit, null);
                reading.end();
            }
        }
        Check.end();
    }

    private static void no(int rule, String what) {
        Check.due("rule " + rule + ": " + what, true, false);
    }

    private static void atMost(int rule, String what, long found, int most) {
        Check.due("rule " + rule + ": " + what + " has " + found + ", at most " + most, found <= most, true);
    }

    private static final class Reading extends TreePathScanner<Void, Void> {
        private final CompilationUnitTree unit;
        private final Trees trees;
        private final Map<Element, Set<Element>> calls = new HashMap<>();
        private Element method;
        private int classes = 0;

        Reading(CompilationUnitTree unit, Trees trees) {
            this.unit = unit;
            this.trees = trees;
            Check.due("rule 0: no package line", unit.getPackageName() == null, true);
            Check.due("rule 0: one public class", unit.getTypeDecls().size(), 1);
        }

        private long line(long position) {
            return unit.getLineMap().getLineNumber(position);
        }

        private long lines(Tree tree) {
            return line(trees.getSourcePositions().getEndPosition(unit, tree))
                - line(trees.getSourcePositions().getStartPosition(unit, tree)) + 1;
        }

        private Element element() {
            return trees.getElement(getCurrentPath());
        }

        @Override
        public Void visitClass(ClassTree tree, Void none) {
            classes++;
            Element self = element();
            boolean outer = self.getEnclosingElement().getKind() == ElementKind.PACKAGE;
            Check.due("rule 2: " + self + " is static", outer || self.getModifiers().contains(Modifier.STATIC), true);
            long fields = tree.getMembers().stream().filter(m -> m instanceof VariableTree)
                .filter(m -> !((VariableTree) m).getModifiers().getFlags().contains(Modifier.STATIC)).count();
            atMost(11, "class " + self, fields, MOST_FIELDS);
            return super.visitClass(tree, none);
        }

        @Override
        public Void visitMethod(MethodTree tree, Void none) {
            Element before = method;
            method = element();
            calls.putIfAbsent(method, new HashSet<>());
            atMost(11, "lines of " + method, lines(tree), MOST_LINES);
            atMost(11, "parameters of " + method, tree.getParameters().size(), MOST_PARAMETERS);
            super.visitMethod(tree, none);
            method = before;
            return null;
        }

        @Override
        public Void visitVariable(VariableTree tree, Void none) {
            Element variable = element();
            TypeMirror type = variable.asType();
            int dimensions = 0;
            while (type.getKind() == TypeKind.ARRAY) {
                type = ((ArrayType) type).getComponentType();
                dimensions++;
            }
            boolean own = type.toString().startsWith("StackBytes");
            Check.due("rule 3: type of " + variable, own || type.getKind().isPrimitive(), true);
            Check.due("rule 3: dimensions of " + variable, dimensions <= 1, true);
            if (variable.getModifiers().contains(Modifier.STATIC)) {
                Check.due("rule 5: final " + variable, variable.getModifiers().contains(Modifier.FINAL), true);
                Check.due("rule 5: written out " + variable, type.getKind().isPrimitive(), true);
            }
            return super.visitVariable(tree, none);
        }

        @Override
        public Void visitMemberSelect(MemberSelectTree tree, Void none) {
            Element selected = element();
            if (selected.getKind() == ElementKind.FIELD) {
                String owner = ((TypeElement) selected.getEnclosingElement()).getQualifiedName().toString();
                // An array's length is a field of a class that javac calls Array.
                boolean isOwn = owner.startsWith("StackBytes") || owner.equals("Array");
                Check.due("rule 4: " + tree + " is the class's own", isOwn, true);
            }
            return super.visitMemberSelect(tree, none);
        }

        @Override
        public Void visitMethodInvocation(MethodInvocationTree tree, Void none) {
            called(element());
            givesNothingAway(tree.getArguments());
            return super.visitMethodInvocation(tree, none);
        }

        @Override
        public Void visitNewClass(NewClassTree tree, Void none) {
            called(element());
            givesNothingAway(tree.getArguments());
            Check.due("rule 2: no anonymous class", tree.getClassBody() == null, true);
            return super.visitNewClass(tree, none);
        }

        private void givesNothingAway(List<? extends ExpressionTree> arguments) {
            if (method == null || method.getKind() != ElementKind.CONSTRUCTOR) {
                return;
            }
            for (ExpressionTree argument : arguments) {
                Check.due("rule 12: " + argument + " is no part of a new object", isPart(argument), false);
            }
        }

        /** The object itself, or an object or array that one of its fields holds. */
        private boolean isPart(ExpressionTree argument) {
            Element named = trees.getElement(new TreePath(getCurrentPath(), argument));
            boolean isSelf = argument instanceof IdentifierTree name && name.getName().contentEquals("this");
            return isSelf || named != null && named.getKind() == ElementKind.FIELD
                && !named.asType().getKind().isPrimitive();
        }

        private void called(Element target) {
            TypeElement owner = (TypeElement) target.getEnclosingElement();
            String name = owner.getQualifiedName() + "." + target.getSimpleName();
            if (!name.startsWith("StackBytes")) {
                Check.due("rule 4: " + name, LIBRARY.contains(name), true);
            }
            if (method != null) {
                calls.get(method).add(target);
            }
        }

        @Override
        public Void visitForLoop(ForLoopTree tree, Void none) {
            Check.due("rule 9: a for with a condition", tree.getCondition() != null, true);
            return super.visitForLoop(tree, none);
        }

        @Override
        public Void visitWhileLoop(WhileLoopTree tree, Void none) {
            boolean endless = tree.getCondition().toString().contains("true");
            Check.due("rule 9: a while with a condition", endless, false);
            return super.visitWhileLoop(tree, none);
        }

        @Override
        public Void visitDoWhileLoop(DoWhileLoopTree tree, Void none) {
            no(9, "a do loop, which the class has not needed");
            return super.visitDoWhileLoop(tree, none);
        }

        @Override
        public Void visitLambdaExpression(LambdaExpressionTree tree, Void none) {
            no(2, "a lambda");
            return super.visitLambdaExpression(tree, none);
        }

        @Override
        public Void visitMemberReference(MemberReferenceTree tree, Void none) {
            no(2, "a method reference");
            return super.visitMemberReference(tree, none);
        }

        @Override
        public Void visitThrow(ThrowTree tree, Void none) {
            no(6, "the document wants no exception");
            return super.visitThrow(tree, none);
        }

        @Override
        public Void visitTry(TryTree tree, Void none) {
            no(6, "no method throws, and so there is nothing to catch");
            return super.visitTry(tree, none);
        }

        @Override
        public Void visitAssert(AssertTree tree, Void none) {
            no(6, "an assert");
            return super.visitAssert(tree, none);
        }

        @Override
        public Void visitSynchronized(SynchronizedTree tree, Void none) {
            no(6, "synchronized");
            return super.visitSynchronized(tree, none);
        }

        @Override
        public Void visitTypeCast(TypeCastTree tree, Void none) {
            boolean ofNumbers = tree.getType().getKind() == Tree.Kind.PRIMITIVE_TYPE;
            Check.due("rule 6: casts of numbers alone: " + tree, ofNumbers, true);
            return super.visitTypeCast(tree, none);
        }

        @Override
        public Void visitLiteral(LiteralTree tree, Void none) {
            Check.due("rule 3: no texts", tree.getKind() == Tree.Kind.STRING_LITERAL, false);
            return super.visitLiteral(tree, none);
        }

        void end() {
            atMost(11, "the file", classes, MOST_CLASSES);
            for (Element start : calls.keySet()) {
                if (start.getModifiers().contains(Modifier.PUBLIC)) {
                    atMost(11, "the calls below " + start, deep(start, new ArrayList<>()), MOST_DEEP);
                }
            }
        }

        /** How many calls stand open at once at most, this one and what the library does counted. */
        private int deep(Element from, List<Element> open) {
            if (open.contains(from)) {
                no(8, from + " calls itself");
                return 0;
            }
            open.add(from);
            int most = 0;
            for (Element target : calls.getOrDefault(from, Set.of())) {
                most = Math.max(most, deep(target, open));
            }
            open.remove(from);
            return most + 1;
        }
    }
}
