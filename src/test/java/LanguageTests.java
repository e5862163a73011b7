import com.sun.source.tree.*;
import com.sun.source.util.JavacTask;
import com.sun.source.util.SourcePositions;
import com.sun.source.util.TreePath;
import com.sun.source.util.TreePathScanner;
import com.sun.source.util.TreeScanner;
import com.sun.source.util.Trees;
import java.io.File;
import java.util.ArrayList;
import java.util.HashSet;
import java.util.List;
import java.util.Map;
import java.util.Set;
import java.util.TreeMap;
import java.util.TreeSet;
import javax.lang.model.element.Element;
import javax.lang.model.element.ElementKind;
import javax.lang.model.element.Modifier;
import javax.lang.model.type.ArrayType;
import javax.lang.model.type.TypeKind;
import javax.lang.model.type.TypeMirror;
import javax.tools.JavaCompiler;
import javax.tools.StandardJavaFileManager;
import javax.tools.ToolProvider;

/**
 * The rules of LANGUAGE.md that can be told from the text of the class alone, by their numbers, and narrower than
 * they stand there: what the class does without (throw, while, lists, doubles, objects made by calls) is refused whole.
 */
public final class LanguageTests {
    private static final String SOURCE = "src/main/java/PavedYards.java";
    private static final Set<String> LIBRARY = Set.of("Arrays.fill", "Arrays.copyOf", "Arrays.copyOfRange", "System.arraycopy",
        "Math.abs", "Math.min", "Math.max", "Math.floorDiv", "Math.floorMod", "Integer.bitCount", "Long.bitCount");
    private static final int MOST_CLASSES = 12, MOST_FIELDS = 20, MOST_LINES = 60, MOST_PARAMETERS = 7, DEEPEST = 8;

    private static final Set<String> broken = new TreeSet<>();

    public static void main(String[] args) throws Exception {
        look(new File(args.length > 0 ? args[0] : SOURCE));
        for (String rule : broken) System.out.println(rule);
        System.out.println(broken.isEmpty() ? "the rules are kept" : broken.size() + " rules broken");
        if (!broken.isEmpty()) System.exit(1);
    }

    private static void look(File source) throws Exception {
        JavaCompiler compiler = ToolProvider.getSystemJavaCompiler();
        try (StandardJavaFileManager files = compiler.getStandardFileManager(null, null, null)) {
            JavacTask task = (JavacTask) compiler.getTask(null, files, null, List.of("-proc:none"), null, files.getJavaFileObjects(source));
            Trees trees = Trees.instance(task);
            for (CompilationUnitTree unit : task.parse()) {
                task.analyze();
                new Rules(trees, unit).lookAtAll();
            }
        }
    }

    /** Goes through the file once; what only the whole file tells (depth of calls, numbers of classes) is told at the end. */
    private static final class Rules extends TreePathScanner<Void, Void> {
        final Trees trees;
        final CompilationUnitTree unit;
        final Map<String, Set<String>> calls = new TreeMap<>();
        String method = "";
        boolean makes;
        int classes;

        Rules(Trees trees, CompilationUnitTree unit) {
            this.trees = trees;
            this.unit = unit;
        }

        void lookAtAll() {
            if (unit.getPackageName() != null) breaks(unit, "1: a package line");
            for (ImportTree line : unit.getImports()) {
                if (!line.getQualifiedIdentifier().toString().equals("java.util.Arrays")) breaks(line, "4: imports " + line.getQualifiedIdentifier());
            }
            if (unit.getTypeDecls().size() != 1) breaks(unit, "1: not one class");
            scan(unit, null);
            if (classes > MOST_CLASSES) breaks(unit, "11: " + classes + " classes");
            for (String name : calls.keySet()) deep(name, new ArrayList<>());
        }

        void breaks(Tree where, String rule) {
            long at = trees.getSourcePositions().getStartPosition(unit, where);
            broken.add("rule " + rule + " (line " + unit.getLineMap().getLineNumber(Math.max(at, 0)) + ")");
        }

        int deep(String name, List<String> open) {
            if (open.contains(name)) {
                broken.add("rule 8: " + name + " calls itself");
                return 0;
            }
            open.add(name);
            int deepest = 0;
            for (String called : calls.getOrDefault(name, Set.of())) deepest = Math.max(deepest, deep(called, open));
            open.remove(open.size() - 1);
            if (deepest + 1 > DEEPEST) broken.add("rule 11: " + name + " goes " + (deepest + 1) + " deep");
            return deepest + 1;
        }

        Element element(Tree tree) {
            return trees.getElement(new TreePath(getCurrentPath(), tree));
        }

        @Override
        public Void visitClass(ClassTree tree, Void none) {
            classes++;
            Set<Modifier> flags = tree.getModifiers().getFlags();
            boolean outermost = getCurrentPath().getParentPath().getLeaf() == unit;
            if (!outermost && (!flags.contains(Modifier.STATIC) || flags.contains(Modifier.PUBLIC) || flags.contains(Modifier.PROTECTED))) {
                breaks(tree, "1: class " + tree.getSimpleName() + " is not private or package-visible, and static");
            }
            int fields = 0;
            for (Tree member : tree.getMembers()) {
                if (member instanceof BlockTree) breaks(member, "5: an initialiser block");
                if (member instanceof VariableTree field && !field.getModifiers().getFlags().contains(Modifier.STATIC)) fields++;
            }
            if (fields > MOST_FIELDS) breaks(tree, "11: " + fields + " fields in " + tree.getSimpleName());
            return super.visitClass(tree, none);
        }

        @Override
        public Void visitMethod(MethodTree tree, Void none) {
            if (tree.getParameters().size() > MOST_PARAMETERS) breaks(tree, "11: more than seven parameters");
            if (!tree.getThrows().isEmpty()) breaks(tree, "6: throws");
            SourcePositions at = trees.getSourcePositions();
            long first = unit.getLineMap().getLineNumber(Math.max(at.getStartPosition(unit, tree), 0));
            long last = unit.getLineMap().getLineNumber(Math.max(at.getEndPosition(unit, tree), 0));
            if (last - first + 1 > MOST_LINES) breaks(tree, "11: " + tree.getName() + " has " + (last - first + 1) + " lines");
            Element self = trees.getElement(getCurrentPath());
            method = self.getEnclosingElement().getSimpleName() + "." + tree.getName();
            makes = self.getKind() == ElementKind.CONSTRUCTOR;
            calls.computeIfAbsent(method, k -> new TreeSet<>());
            super.visitMethod(tree, none);
            method = "";
            makes = false;
            return null;
        }

        @Override
        public Void visitVariable(VariableTree tree, Void none) {
            Element self = trees.getElement(getCurrentPath());
            TypeMirror type = self.asType();
            if (!isAllowed(type)) breaks(tree, "3: " + tree.getName() + " is of type " + type);
            boolean isStatic = self.getModifiers().contains(Modifier.STATIC);
            if (isStatic && (!self.getModifiers().contains(Modifier.FINAL) || !type.getKind().isPrimitive())) {
                breaks(tree, "5: static " + tree.getName() + " is no constant");
            }
            if (self.getKind() == ElementKind.FIELD && !isStatic && method.isEmpty()) {
                makes = true;
                super.visitVariable(tree, none);
                makes = false;
                return null;
            }
            return super.visitVariable(tree, none);
        }

        boolean isAllowed(TypeMirror type) {
            if (type.getKind() == TypeKind.ARRAY) {
                TypeMirror part = ((ArrayType) type).getComponentType();
                return part.getKind() != TypeKind.ARRAY && isAllowed(part);
            }
            if (type.getKind() == TypeKind.DOUBLE || type.getKind() == TypeKind.FLOAT) return false;
            return type.getKind().isPrimitive() || type.toString().startsWith("PavedYards");
        }

        @Override
        public Void visitMethodInvocation(MethodInvocationTree tree, Void none) {
            Element called = element(tree.getMethodSelect());
            String name = called.getEnclosingElement().getSimpleName() + "." + called.getSimpleName();
            boolean own = called.getEnclosingElement().toString().startsWith("PavedYards");
            if (own && !method.isEmpty()) calls.computeIfAbsent(method, k -> new TreeSet<>()).add(name);
            else if (!own && !name.equals("Object.<init>") && !LIBRARY.contains(name)) breaks(tree, "4: calls " + name);
            if (name.equals("Arrays.fill") && isOfBooleans(tree.getArguments().get(0))) breaks(tree, "4: fills a row that is not of numbers");
            return super.visitMethodInvocation(tree, none);
        }

        boolean isOfBooleans(ExpressionTree row) {
            return trees.getTypeMirror(new TreePath(getCurrentPath(), row)).toString().equals("boolean[]");
        }

        @Override
        public Void visitNewClass(NewClassTree tree, Void none) {
            if (!makes) breaks(tree, "12: " + method + " makes an object");
            if (tree.getClassBody() != null) breaks(tree, "2: a class without a name");
            return super.visitNewClass(tree, none);
        }

        @Override
        public Void visitNewArray(NewArrayTree tree, Void none) {
            if (!makes) breaks(tree, "12: " + method + " makes a row");
            return super.visitNewArray(tree, none);
        }

        @Override
        public Void visitTypeCast(TypeCastTree tree, Void none) {
            if (tree.getType().getKind() != Tree.Kind.PRIMITIVE_TYPE) breaks(tree, "7: casts to " + tree.getType());
            return super.visitTypeCast(tree, none);
        }

        @Override
        public Void visitForLoop(ForLoopTree tree, Void none) {
            if (!hasBound(tree)) breaks(tree, "9: the loop's end can't be seen");
            return super.visitForLoop(tree, none);
        }

        /** One counter, moved by one in the head alone, against a bound that nothing in the loop changes. */
        boolean hasBound(ForLoopTree tree) {
            if (tree.getInitializer().size() != 1 || !(tree.getInitializer().get(0) instanceof VariableTree counter)) return false;
            if (tree.getUpdate().size() != 1 || !(tree.getUpdate().get(0).getExpression() instanceof UnaryTree update)) return false;
            boolean up = update.getKind() == Tree.Kind.POSTFIX_INCREMENT;
            if (!up && update.getKind() != Tree.Kind.POSTFIX_DECREMENT) return false;
            if (!update.getExpression().toString().equals(counter.getName().toString())) return false;
            Set<String> changed = new HashSet<>();
            new Changed().scan(tree.getStatement(), changed);
            if (changed.contains(counter.getName().toString())) return false;
            for (ExpressionTree part : parts(tree.getCondition(), new ArrayList<>())) {
                if (!(part instanceof BinaryTree test) || !test.getLeftOperand().toString().equals(counter.getName().toString())) continue;
                boolean right = up ? test.getKind() == Tree.Kind.LESS_THAN : test.getKind() == Tree.Kind.GREATER_THAN_EQUAL;
                if (right && isFixed(test.getRightOperand(), changed)) return true;
            }
            return false;
        }

        static List<ExpressionTree> parts(ExpressionTree test, List<ExpressionTree> to) {
            if (test instanceof BinaryTree both && both.getKind() == Tree.Kind.CONDITIONAL_AND) {
                parts(both.getLeftOperand(), to);
                parts(both.getRightOperand(), to);
            } else if (test != null) {
                to.add(test);
            }
            return to;
        }

        /** A wave's size grows while it is gone through, by calls that do not show in the loop's own lines. */
        boolean isFixed(ExpressionTree bound, Set<String> changed) {
            String text = bound.toString();
            return !text.equals("wave.size") && !changed.contains(text);
        }

        @Override
        public Void visitWhileLoop(WhileLoopTree tree, Void none) {
            breaks(tree, "9: while");
            return super.visitWhileLoop(tree, none);
        }

        @Override
        public Void visitDoWhileLoop(DoWhileLoopTree tree, Void none) {
            breaks(tree, "9: do");
            return super.visitDoWhileLoop(tree, none);
        }

        @Override
        public Void visitThrow(ThrowTree tree, Void none) {
            breaks(tree, "6: throw, which the document nowhere asks for");
            return super.visitThrow(tree, none);
        }

        @Override
        public Void visitTry(TryTree tree, Void none) {
            breaks(tree, "6: try");
            return super.visitTry(tree, none);
        }

        @Override
        public Void visitSynchronized(SynchronizedTree tree, Void none) {
            breaks(tree, "6: synchronized");
            return super.visitSynchronized(tree, none);
        }

        @Override
        public Void visitAssert(AssertTree tree, Void none) {
            breaks(tree, "6: assert");
            return super.visitAssert(tree, none);
        }

        @Override
        public Void visitLambdaExpression(LambdaExpressionTree tree, Void none) {
            breaks(tree, "2: a lambda");
            return super.visitLambdaExpression(tree, none);
        }

        @Override
        public Void visitMemberReference(MemberReferenceTree tree, Void none) {
            breaks(tree, "2: a method reference");
            return super.visitMemberReference(tree, none);
        }
    }

    /** What is assigned to, as it is written. */
    private static final class Changed extends TreeScanner<Void, Set<String>> {
        @Override
        public Void visitAssignment(AssignmentTree tree, Set<String> to) {
            to.add(tree.getVariable().toString());
            return super.visitAssignment(tree, to);
        }

        @Override
        public Void visitCompoundAssignment(CompoundAssignmentTree tree, Set<String> to) {
            to.add(tree.getVariable().toString());
            return super.visitCompoundAssignment(tree, to);
        }

        @Override
        public Void visitUnary(UnaryTree tree, Set<String> to) {
            boolean moves = tree.getKind().toString().endsWith("CREMENT");
            if (moves) to.add(tree.getExpression().toString());
            return super.visitUnary(tree, to);
        }
    }
}
