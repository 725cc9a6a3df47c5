import com.sun.source.tree.BinaryTree;
import com.sun.source.tree.ClassTree;
import com.sun.source.tree.CompilationUnitTree;
import com.sun.source.tree.ConditionalExpressionTree;
import com.sun.source.tree.ExpressionTree;
import com.sun.source.tree.IfTree;
import com.sun.source.tree.LambdaExpressionTree;
import com.sun.source.tree.MemberReferenceTree;
import com.sun.source.tree.MethodInvocationTree;
import com.sun.source.tree.MethodTree;
import com.sun.source.tree.NewArrayTree;
import com.sun.source.tree.NewClassTree;
import com.sun.source.tree.ThrowTree;
import com.sun.source.tree.Tree;
import com.sun.source.tree.TryTree;
import com.sun.source.tree.TypeCastTree;
import com.sun.source.tree.VariableTree;
import com.sun.source.util.JavacTask;
import com.sun.source.util.TreePath;
import com.sun.source.util.TreePathScanner;
import com.sun.source.util.Trees;
import java.io.IOException;
import java.nio.file.Path;
import java.util.HashMap;
import java.util.List;
import java.util.Map;
import java.util.Set;
import java.util.TreeMap;
import java.util.TreeSet;
import javax.lang.model.element.Element;
import javax.lang.model.element.ElementKind;
import javax.lang.model.element.Modifier;
import javax.lang.model.element.VariableElement;
import javax.lang.model.type.TypeMirror;
import javax.tools.JavaCompiler;
import javax.tools.StandardJavaFileManager;
import javax.tools.ToolProvider;

/** The rules of ../shared/LANGUAGE.md that can be seen in the source as the compiler reads it. */
final class LanguageTreeTest extends TreePathScanner<Void, Void> {
    /** Rule 4: all of the library that the class needs; each stands in the rule's list. */
    private static final Set<String> LIBRARY = Set.of("java.util.Arrays.fill", "java.lang.Math.max", "java.lang.Math.min",
            "java.lang.Integer.bitCount", "java.lang.Long.numberOfTrailingZeros", "java.lang.System.arraycopy");
    /** Rule 3: all the types of fields, parameters and variables that the class needs, its own aside. */
    private static final Set<String> TYPES = Set.of("int", "long", "byte", "boolean", "int[]", "long[]", "byte[]");
    private static final Set<String> CONSTANT_TYPES = Set.of("int", "long", "boolean", "char", "java.lang.String", "int[]");
    private static final int DEEPEST = 8;
    private static final int MOST_LINES = 60;
    private static final int MOST_PARAMETERS = 7;
    private static final int MOST_CLASSES = 12;
    private static final int MOST_FIELDS = 20;

    private final Check check = new Check("LanguageTreeTest");
    private final Trees trees;
    private final CompilationUnitTree source;
    private final Map<String, Set<String>> calls = new TreeMap<>();
    private final Map<String, Integer> depths = new HashMap<>();
    private int classes = 0;

    private LanguageTreeTest(Trees trees, CompilationUnitTree source) {
        this.trees = trees;
        this.source = source;
    }

    public static void main(String[] args) throws IOException {
        JavaCompiler compiler = ToolProvider.getSystemJavaCompiler();
        try (StandardJavaFileManager files = compiler.getStandardFileManager(null, null, null)) {
            JavacTask task = (JavacTask) compiler.getTask(null, files, null, List.of("--release", "17"), null,
                    files.getJavaFileObjects(Path.of("src/main/java/GapLinks.java")));
            Iterable<? extends CompilationUnitTree> units = task.parse();
            task.analyze();
            for (CompilationUnitTree unit : units) {
                new LanguageTreeTest(Trees.instance(task), unit).look();
            }
        }
    }

    private void look() {
        scan(source, null);
        check.due("rule 11: classes", true, classes > 0 && classes <= MOST_CLASSES);
        check.due("methods were found", true, calls.size() > 100);
        for (String method : calls.keySet()) {
            int depth = depth(method, new TreeSet<>());
            check.due("rules 8 and 11: calls from " + method + " are " + depth + " deep", true, depth <= DEEPEST);
        }
        check.finish();
    }

    /** How many calls stand open at once, a method's own with them; more than may be if it comes to itself again. */
    private int depth(String method, Set<String> open) {
        if (!open.add(method)) {
            return DEEPEST + 1;
        }
        Integer known = depths.get(method);
        int deepest = 0;
        for (String called : known == null ? calls.getOrDefault(method, Set.of()) : Set.<String>of()) {
            deepest = Math.max(deepest, depth(called, open));
        }
        open.remove(method);
        depths.putIfAbsent(method, deepest + 1);
        return depths.get(method);
    }

    private String where(Tree tree) {
        long at = trees.getSourcePositions().getStartPosition(source, tree);
        return "line " + source.getLineMap().getLineNumber(at) + ": ";
    }

    private long lines(Tree tree) {
        long first = trees.getSourcePositions().getStartPosition(source, tree);
        long last = trees.getSourcePositions().getEndPosition(source, tree);
        return source.getLineMap().getLineNumber(last) - source.getLineMap().getLineNumber(first) + 1;
    }

    private Element element() {
        return trees.getElement(getCurrentPath());
    }

    private static String told(Element member) {
        return member.getEnclosingElement() + "." + member.getSimpleName();
    }

    private static boolean isOwn(String type) {
        return type.equals("GapLinks") || type.startsWith("GapLinks.");
    }

    /** The method that what is being looked at stands in; null in the initialiser of a field. */
    private MethodTree around() {
        for (TreePath path = getCurrentPath(); path != null; path = path.getParentPath()) {
            if (path.getLeaf() instanceof MethodTree method) {
                return method;
            }
        }
        return null;
    }

    @Override
    public Void visitClass(ClassTree tree, Void none) {
        classes++;
        int fields = 0;
        for (Tree member : tree.getMembers()) {
            if (member instanceof VariableTree field) {
                fields += field.getModifiers().getFlags().contains(Modifier.STATIC) ? 0 : 1;
            }
            check.due("rule 5: " + where(member) + "a block", false, member.getKind() == Tree.Kind.BLOCK);
        }
        check.due("rule 11: " + where(tree) + fields + " fields", true, fields <= MOST_FIELDS);
        if (getCurrentPath().getParentPath().getLeaf() instanceof ClassTree) {
            check.due("rule 2: " + where(tree) + "static", true, tree.getModifiers().getFlags().contains(Modifier.STATIC));
        }
        return super.visitClass(tree, none);
    }

    @Override
    public Void visitMethod(MethodTree tree, Void none) {
        check.due("rule 11: " + where(tree) + "lines", true, lines(tree) <= MOST_LINES);
        check.due("rule 11: " + where(tree) + "parameters", true, tree.getParameters().size() <= MOST_PARAMETERS);
        calls.putIfAbsent(told(element()), new TreeSet<>());
        return super.visitMethod(tree, none);
    }

    @Override
    public Void visitVariable(VariableTree tree, Void none) {
        Element variable = element();
        TypeMirror type = variable.asType();
        if (variable.getKind() == ElementKind.FIELD && variable.getModifiers().contains(Modifier.STATIC)) {
            check.due("rule 5: " + where(tree) + "final", true, variable.getModifiers().contains(Modifier.FINAL));
            check.due("rule 5: " + where(tree) + type, true, CONSTANT_TYPES.contains(type.toString()));
        } else {
            check.due("rule 3: " + where(tree) + type, true, TYPES.contains(type.toString()) || isOwn(type.toString()));
        }
        return super.visitVariable(tree, none);
    }

    @Override
    public Void visitMethodInvocation(MethodInvocationTree tree, Void none) {
        Element called = element();
        if (called.getKind() == ElementKind.METHOD) {
            String name = told(called);
            check.due("rule 4: " + where(tree) + name, true,
                    isOwn(called.getEnclosingElement().toString()) || LIBRARY.contains(name));
            MethodTree caller = around();
            check.due("rule 12: " + where(tree) + "no call outside a method", true, caller != null);
            Element owner = trees.getElement(trees.getPath(source, caller));
            calls.computeIfAbsent(told(owner), key -> new TreeSet<>()).add(name);
        }
        return super.visitMethodInvocation(tree, none);
    }

    @Override
    public Void visitNewClass(NewClassTree tree, Void none) {
        String made = trees.getTypeMirror(getCurrentPath()).toString();
        boolean thrown = getCurrentPath().getParentPath().getLeaf() instanceof ThrowTree;
        check.due("rule 12: " + where(tree) + "new " + made + " stands in a field", true, thrown || around() == null);
        check.due("rules 3 and 6: " + where(tree) + "new " + made, true,
                thrown ? made.equals("java.util.NoSuchElementException") : isOwn(made));
        return super.visitNewClass(tree, none);
    }

    @Override
    public Void visitNewArray(NewArrayTree tree, Void none) {
        check.due("rule 12: " + where(tree) + "a row is made in a field", true, around() == null);
        check.due("rule 3: " + where(tree) + "one dimension", true, tree.getDimensions().size() <= 1);
        for (ExpressionTree length : tree.getDimensions()) {
            TreePath path = new TreePath(getCurrentPath(), length);
            check.due("rule 7: " + where(tree) + "a constant length", true, isConstant(path));
        }
        return super.visitNewArray(tree, none);
    }

    @Override
    public Void visitThrow(ThrowTree tree, Void none) {
        check.due("rule 6: " + where(tree) + "only silent throws", true, around().getName().contentEquals("silent"));
        check.due("rule 6: " + where(tree) + "throw new", true, tree.getExpression() instanceof NewClassTree);
        return super.visitThrow(tree, none);
    }

    @Override
    public Void visitBinary(BinaryTree tree, Void none) {
        if (tree.getKind() == Tree.Kind.DIVIDE || tree.getKind() == Tree.Kind.REMAINDER) {
            TreePath divisor = new TreePath(getCurrentPath(), tree.getRightOperand());
            check.due("rule 7: " + where(tree) + tree + " has a divisor that was looked at", true,
                    isConstant(divisor) || isTestedAbove(tree.getRightOperand().toString()));
        }
        return super.visitBinary(tree, none);
    }

    /** A number, or names of constants and numbers joined by signs. */
    private boolean isConstant(TreePath path) {
        Tree tree = path.getLeaf();
        if (tree instanceof BinaryTree both) {
            return isConstant(new TreePath(path, both.getLeftOperand()))
                    && isConstant(new TreePath(path, both.getRightOperand()));
        }
        if (tree.getKind() == Tree.Kind.INT_LITERAL) {
            return true;
        }
        return trees.getElement(path) instanceof VariableElement variable
                && variable.getConstantValue() != null;
    }

    /** Whether an if or a ?: round here asks for this name to be above 0. */
    private boolean isTestedAbove(String name) {
        for (TreePath path = getCurrentPath(); path != null; path = path.getParentPath()) {
            String asked = "";
            if (path.getLeaf() instanceof IfTree choice) {
                asked = choice.getCondition().toString();
            } else if (path.getLeaf() instanceof ConditionalExpressionTree choice) {
                asked = choice.getCondition().toString();
            }
            if (asked.contains(name + " > 0") && !asked.contains("||")) {
                return true;
            }
        }
        return false;
    }

    @Override
    public Void visitTypeCast(TypeCastTree tree, Void none) {
        String type = tree.getType().toString();
        check.due("rule 7: " + where(tree) + "a cast to " + type, true, TYPES.contains(type));
        return super.visitTypeCast(tree, none);
    }

    @Override
    public Void visitTry(TryTree tree, Void none) {
        check.due("rule 6: " + where(tree) + "nothing is caught", true, false);
        return super.visitTry(tree, none);
    }

    @Override
    public Void visitLambdaExpression(LambdaExpressionTree tree, Void none) {
        check.due("rule 2: " + where(tree) + "no lambda", true, false);
        return super.visitLambdaExpression(tree, none);
    }

    @Override
    public Void visitMemberReference(MemberReferenceTree tree, Void none) {
        check.due("rule 2: " + where(tree) + "no method reference", true, false);
        return super.visitMemberReference(tree, none);
    }
}
