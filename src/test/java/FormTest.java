import com.sun.source.tree.ArrayAccessTree;
import com.sun.source.tree.BinaryTree;
import com.sun.source.tree.BlockTree;
import com.sun.source.tree.ClassTree;
import com.sun.source.tree.CompilationUnitTree;
import com.sun.source.tree.EnhancedForLoopTree;
import com.sun.source.tree.ExpressionTree;
import com.sun.source.tree.ForLoopTree;
import com.sun.source.tree.ImportTree;
import com.sun.source.tree.LiteralTree;
import com.sun.source.tree.MethodInvocationTree;
import com.sun.source.tree.MethodTree;
import com.sun.source.tree.NewArrayTree;
import com.sun.source.tree.NewClassTree;
import com.sun.source.tree.ParenthesizedTree;
import com.sun.source.tree.ThrowTree;
import com.sun.source.tree.Tree;
import com.sun.source.tree.TypeCastTree;
import com.sun.source.tree.VariableTree;
import com.sun.source.util.JavacTask;
import com.sun.source.util.SourcePositions;
import com.sun.source.util.TreePath;
import com.sun.source.util.TreePathScanner;
import com.sun.source.util.Trees;
import java.io.IOException;
import java.nio.file.Path;
import java.util.HashMap;
import java.util.LinkedHashMap;
import java.util.LinkedHashSet;
import java.util.List;
import java.util.Map;
import java.util.Set;
import javax.lang.model.element.Element;
import javax.lang.model.element.ElementKind;
import javax.lang.model.element.Modifier;
import javax.lang.model.type.TypeKind;
import javax.tools.JavaCompiler;
import javax.tools.StandardJavaFileManager;
import javax.tools.ToolProvider;

/** The form of the class: the rules of LANGUAGE.md that its source alone can tell. */
public final class FormTest extends Checks {
    private static final Path SOURCE = Path.of("src", "main", "java", "Counterpointery.java");
    private static final Set<String> LIBRARY = Set.of("java.lang.Math.abs", "java.lang.Math.min", "java.lang.Math.max",
        "java.lang.Integer.bitCount", "java.lang.System.arraycopy", "java.lang.String.indexOf",
        "java.lang.String.length", "java.lang.String.charAt");
    private static final Set<String> THROWN = Set.of("IllegalStateException", "IllegalArgumentException",
        "IndexOutOfBoundsException", "ArithmeticException", "UnsupportedOperationException", "NoSuchElementException");
    /** What the class does without, by the rule that forbids or bounds it. */
    private static final Map<Tree.Kind, Integer> FORBIDDEN = Map.of(Tree.Kind.LAMBDA_EXPRESSION, 2,
        Tree.Kind.MEMBER_REFERENCE, 2, Tree.Kind.TRY, 6, Tree.Kind.SYNCHRONIZED, 6, Tree.Kind.ASSERT, 6,
        Tree.Kind.WHILE_LOOP, 9, Tree.Kind.DO_WHILE_LOOP, 9, Tree.Kind.DIVIDE_ASSIGNMENT, 7,
        Tree.Kind.REMAINDER_ASSIGNMENT, 7);
    private static final int MOST_PARAMETERS = 7;
    private static final int MOST_LINES = 60;
    private static final int MOST_CLASSES = 12;
    private static final int MOST_FIELDS = 20;
    private static final int MOST_DEPTH = 8;

    public static void main(String[] args) throws IOException {
        JavaCompiler compiler = ToolProvider.getSystemJavaCompiler();
        try (StandardJavaFileManager files = compiler.getStandardFileManager(null, null, null)) {
            JavacTask task = (JavacTask) compiler.getTask(null, files, null, List.of("-proc:none"), null,
                    files.getJavaFileObjects(SOURCE));
            CompilationUnitTree unit = task.parse().iterator().next();
            task.analyze();
            Rules rules = new Rules(Trees.instance(task), unit);
            rules.checkUnit();
            rules.scan(unit, null);
            rules.checkCalls();
        }
        end("the form is as ruled");
    }

    private static final class Rules extends TreePathScanner<Void, Void> {
        private final Trees trees;
        private final SourcePositions positions;
        private final CompilationUnitTree unit;
        /** What each own method calls: own methods, and the library's, which stand for one call more. */
        private final Map<Element, Set<Element>> calls = new LinkedHashMap<>();
        private final Map<Element, Integer> depths = new HashMap<>();
        private int classes = 0;
        private int loops = 0;

        Rules(Trees trees, CompilationUnitTree unit) {
            this.trees = trees;
            this.unit = unit;
            positions = trees.getSourcePositions();
        }

        private void rule(int rule, String what, Tree where, boolean holds) {
            long line = unit.getLineMap().getLineNumber(positions.getStartPosition(unit, where));
            due("rule " + rule + ", line " + line + ", " + what, holds, true);
        }

        private static Set<Modifier> flagsOf(Element element) {
            return element.getModifiers();
        }

        private Element elementOf(Tree tree) {
            return trees.getElement(TreePath.getPath(unit, tree));
        }

        private boolean isOwn(Element element) {
            return trees.getTree(element) != null;
        }

        /** The source of the method round the place. */
        private String methodText() {
            for (TreePath path = getCurrentPath(); path != null; path = path.getParentPath()) {
                if (path.getLeaf() instanceof MethodTree) {
                    return path.getLeaf().toString();
                }
            }
            return "";
        }

        private Element method() {
            for (TreePath path = getCurrentPath(); path != null; path = path.getParentPath()) {
                if (path.getLeaf() instanceof MethodTree) {
                    return trees.getElement(path);
                }
            }
            return null;
        }

        private void addCall(Element called) {
            if (method() != null && called != null) {
                calls.computeIfAbsent(method(), key -> new LinkedHashSet<>()).add(called);
            }
        }

        // ---- the file and its classes

        void checkUnit() {
            rule(1, "no package", unit, unit.getPackageName() == null);
            rule(1, "one class in the file", unit, unit.getTypeDecls().size() == 1);
            for (ImportTree line : unit.getImports()) {
                boolean isListed = line.getQualifiedIdentifier().toString().equals("java.util.NoSuchElementException");
                rule(4, "the library's " + line.getQualifiedIdentifier(), line, isListed);
            }
        }

        @Override
        public Void visitClass(ClassTree tree, Void nothing) {
            classes++;
            rule(11, "classes", tree, classes <= MOST_CLASSES);
            Element element = elementOf(tree);
            if (element.getEnclosingElement().getKind().isClass()) {
                boolean isHidden = flagsOf(element).contains(Modifier.STATIC)
                        && !flagsOf(element).contains(Modifier.PUBLIC)
                        && !flagsOf(element).contains(Modifier.PROTECTED);
                rule(1, "a class inside is static and not public", tree, isHidden);
            } else {
                rule(2, "no local class", tree, element.getEnclosingElement().getKind() == ElementKind.PACKAGE);
            }
            int fields = 0;
            for (Tree member : tree.getMembers()) {
                rule(5, "no initialiser block", member, !(member instanceof BlockTree));
                boolean isField = member instanceof VariableTree;
                fields += isField && !flagsOf(elementOf(member)).contains(Modifier.STATIC) ? 1 : 0;
            }
            rule(11, "fields", tree, fields <= MOST_FIELDS);
            return super.visitClass(tree, nothing);
        }

        @Override
        public Void visitVariable(VariableTree tree, Void nothing) {
            Element element = elementOf(tree);
            if (element.getKind() == ElementKind.FIELD && flagsOf(element).contains(Modifier.STATIC)) {
                rule(5, "a static field is final", tree, flagsOf(element).contains(Modifier.FINAL));
            }
            String type = tree.getType().toString().replace("[]", "");
            rule(3, "the type " + type, tree, isNumber(type) || type.equals("String") || isOwn(type));
            return super.visitVariable(tree, nothing);
        }

        private boolean isNumber(String type) {
            return Set.of("int", "long", "boolean", "char", "float", "double").contains(type);
        }

        private boolean isOwn(String type) {
            for (Tree member : ((ClassTree) unit.getTypeDecls().get(0)).getMembers()) {
                if (member instanceof ClassTree && ((ClassTree) member).getSimpleName().contentEquals(type)) {
                    return true;
                }
            }
            return false;
        }

        @Override
        public Void visitMethod(MethodTree tree, Void nothing) {
            rule(11, "parameters", tree, tree.getParameters().size() <= MOST_PARAMETERS);
            long first = unit.getLineMap().getLineNumber(positions.getStartPosition(unit, tree));
            long last = unit.getLineMap().getLineNumber(positions.getEndPosition(unit, tree));
            rule(11, "lines", tree, last - first < MOST_LINES);
            return super.visitMethod(tree, nothing);
        }

        // ---- what is made, called and thrown

        @Override
        public Void visitNewClass(NewClassTree tree, Void nothing) {
            Element made = elementOf(tree);
            if (isOwn(made)) {
                rule(12, "nothing is made in a loop", tree, loops == 0);
                addCall(made);
            } else {
                boolean isThrown = getCurrentPath().getParentPath().getLeaf() instanceof ThrowTree;
                rule(4, "only what is thrown is the library's", tree, isThrown);
            }
            return super.visitNewClass(tree, nothing);
        }

        @Override
        public Void visitNewArray(NewArrayTree tree, Void nothing) {
            boolean isAhead = method() == null || method().getKind() == ElementKind.CONSTRUCTOR;
            rule(12, "rows are made ahead of the calls", tree, isAhead && loops == 0);
            return super.visitNewArray(tree, nothing);
        }

        @Override
        public Void visitMethodInvocation(MethodInvocationTree tree, Void nothing) {
            Element called = elementOf(tree.getMethodSelect());
            boolean isSuper = tree.getMethodSelect().toString().equals("super");
            if (!isSuper) {
                String name = called.getEnclosingElement() + "." + called.getSimpleName();
                rule(4, name + " is listed", tree, isOwn(called) || LIBRARY.contains(name));
                addCall(called);
            }
            if (called.getSimpleName().contentEquals("charAt")) {
                String text = tree.getMethodSelect().toString().replace(".charAt", "");
                dueBelow(tree.getArguments().get(0), text + ".length()", tree);
            }
            return super.visitMethodInvocation(tree, nothing);
        }

        @Override
        public Void visitThrow(ThrowTree tree, Void nothing) {
            boolean isNew = tree.getExpression() instanceof NewClassTree;
            rule(6, "a new one is thrown", tree, isNew);
            if (isNew) {
                NewClassTree made = (NewClassTree) tree.getExpression();
                rule(6, made.getIdentifier() + " may be thrown", tree, THROWN.contains(made.getIdentifier().toString()));
                for (ExpressionTree text : made.getArguments()) {
                    rule(6, "its text is written out", tree, text instanceof LiteralTree);
                }
            }
            rule(6, "no throw in a constructor", tree, method().getKind() != ElementKind.CONSTRUCTOR);
            return super.visitThrow(tree, nothing);
        }

        // ---- what the machine could throw

        private void dueBelow(ExpressionTree index, String length, Tree where) {
            rule(7, index + " is looked at", where, methodText().contains(index + " < " + length));
        }

        @Override
        public Void visitArrayAccess(ArrayAccessTree tree, Void nothing) {
            dueBelow(tree.getIndex(), tree.getExpression() + ".length", tree);
            return super.visitArrayAccess(tree, nothing);
        }

        @Override
        public Void visitBinary(BinaryTree tree, Void nothing) {
            if (tree.getKind() == Tree.Kind.DIVIDE || tree.getKind() == Tree.Kind.REMAINDER) {
                rule(7, "the divisor " + tree.getRightOperand(), tree, isNoZero(tree.getRightOperand()));
            }
            boolean isText = tree.getKind() == Tree.Kind.PLUS && (isText(tree.getLeftOperand())
                    || isText(tree.getRightOperand()));
            rule(10, "no texts are joined", tree, !isText);
            return super.visitBinary(tree, nothing);
        }

        private boolean isText(ExpressionTree tree) {
            return trees.getTypeMirror(TreePath.getPath(unit, tree)).getKind() == TypeKind.DECLARED;
        }

        private boolean isNoZero(ExpressionTree divisor) {
            if (divisor instanceof TypeCastTree) {
                return isNoZero(((TypeCastTree) divisor).getExpression());
            }
            if (divisor instanceof ParenthesizedTree) {
                return isNoZero(((ParenthesizedTree) divisor).getExpression());
            }
            if (divisor instanceof LiteralTree) {
                return !((LiteralTree) divisor).getValue().equals(0);
            }
            boolean isConstant = flagsOf(elementOf(divisor)).contains(Modifier.STATIC);
            return isConstant || methodText().contains(divisor + " < 1");
        }

        @Override
        public Void visitTypeCast(TypeCastTree tree, Void nothing) {
            rule(6, "a cast of numbers", tree, isNumber(tree.getType().toString()));
            return super.visitTypeCast(tree, nothing);
        }

        // ---- loops, and what is not in the language

        @Override
        public Void visitForLoop(ForLoopTree tree, Void nothing) {
            rule(9, "a loop counts to a bound", tree, tree.getCondition() != null && tree.getUpdate().size() == 1);
            loops++;
            super.visitForLoop(tree, nothing);
            loops--;
            return null;
        }

        @Override
        public Void visitEnhancedForLoop(EnhancedForLoopTree tree, Void nothing) {
            loops++;
            super.visitEnhancedForLoop(tree, nothing);
            loops--;
            return null;
        }

        @Override
        public Void scan(Tree tree, Void nothing) {
            if (tree != null && FORBIDDEN.containsKey(tree.getKind())) {
                rule(FORBIDDEN.get(tree.getKind()), "no " + tree.getKind(), tree, false);
            }
            return super.scan(tree, nothing);
        }

        // ---- how deep calls go

        void checkCalls() {
            for (Element called : calls.keySet()) {
                int depth = depthOf(called, new LinkedHashSet<>());
                due("rule 11, the depth of calls from " + called + ", which is " + depth, depth <= MOST_DEPTH, true);
            }
        }

        /** How many calls stand open at once, this one and the library's counted. */
        private int depthOf(Element called, Set<Element> open) {
            if (depths.containsKey(called)) {
                return depths.get(called);
            }
            boolean isNew = open.add(called);
            due("rule 8, " + called + " calls itself", !isNew, false);
            int depth = 0;
            if (isNew) {
                for (Element next : calls.getOrDefault(called, Set.of())) {
                    depth = Math.max(depth, depthOf(next, open));
                }
            }
            open.remove(called);
            depths.put(called, depth + 1);
            return depth + 1;
        }
    }
}
