import com.sun.source.tree.AssertTree;
import com.sun.source.tree.BinaryTree;
import com.sun.source.tree.BlockTree;
import com.sun.source.tree.ClassTree;
import com.sun.source.tree.CompilationUnitTree;
import com.sun.source.tree.DoWhileLoopTree;
import com.sun.source.tree.ExpressionTree;
import com.sun.source.tree.ForLoopTree;
import com.sun.source.tree.ImportTree;
import com.sun.source.tree.LambdaExpressionTree;
import com.sun.source.tree.LiteralTree;
import com.sun.source.tree.MemberReferenceTree;
import com.sun.source.tree.MethodInvocationTree;
import com.sun.source.tree.MethodTree;
import com.sun.source.tree.NewArrayTree;
import com.sun.source.tree.NewClassTree;
import com.sun.source.tree.SynchronizedTree;
import com.sun.source.tree.ThrowTree;
import com.sun.source.tree.Tree;
import com.sun.source.tree.TryTree;
import com.sun.source.tree.TypeCastTree;
import com.sun.source.tree.VariableTree;
import com.sun.source.tree.WhileLoopTree;
import com.sun.source.util.TreePath;
import com.sun.source.util.TreePathScanner;
import com.sun.source.util.Trees;
import java.util.ArrayList;
import java.util.HashMap;
import java.util.LinkedHashSet;
import java.util.List;
import java.util.Map;
import java.util.Set;
import javax.lang.model.element.Element;
import javax.lang.model.element.ElementKind;
import javax.lang.model.element.ExecutableElement;
import javax.lang.model.element.Modifier;
import javax.lang.model.element.TypeElement;
import javax.lang.model.type.ArrayType;
import javax.lang.model.type.DeclaredType;
import javax.lang.model.type.TypeKind;
import javax.lang.model.type.TypeMirror;

/** Goes through a file as the compiler has read it, and tells which rules of LANGUAGE.md it breaks. */
final class Rules extends TreePathScanner<Void, Void> {
    private static final int MOST_LINES = 60;
    private static final int MOST_CLASSES = 12;
    private static final int MOST_FIELDS = 20;
    private static final int MOST_PARAMETERS = 7;
    private static final int MOST_CALLS = 8;

    private static final Map<String, Set<String>> LIBRARY = Map.of(
        "java.lang.String", Set.of("length", "charAt", "isEmpty", "equals", "indexOf", "substring", "toCharArray"),
        "java.lang.StringBuilder", Set.of("append", "charAt", "setCharAt", "setLength", "deleteCharAt", "reverse",
            "length", "toString"),
        "java.util.ArrayList", Set.of("add", "get", "set", "remove", "size", "isEmpty", "clear"),
        "java.util.List", Set.of("add", "get", "set", "remove", "size", "isEmpty", "clear", "of"),
        "java.lang.Integer", Set.of("compare", "max", "min", "bitCount"),
        "java.lang.Math", Set.of("max", "min", "abs", "floorDiv", "floorMod"),
        "java.lang.System", Set.of("arraycopy"),
        "java.util.Arrays", Set.of("copyOf", "copyOfRange", "fill"));
    private static final Set<String> IMPORTS = Set.of("java.util.ArrayList", "java.util.Arrays", "java.util.List");
    private static final Set<String> TYPES = Set.of("java.lang.String", "java.lang.StringBuilder", "java.util.ArrayList",
        "java.util.List");

    private final Trees trees;
    private final CompilationUnitTree unit;
    private final List<String> broken = new ArrayList<>();
    private final Map<ExecutableElement, Set<ExecutableElement>> calls = new HashMap<>();
    private int classes = 0;

    Rules(Trees trees, CompilationUnitTree unit) {
        this.trees = trees;
        this.unit = unit;
    }

    List<String> broken() {
        return broken;
    }

    int methods() {
        return calls.size();
    }

    private void breaks(int rule, Tree tree, String why) {
        long line = unit.getLineMap().getLineNumber(trees.getSourcePositions().getStartPosition(unit, tree));
        broken.add("rule " + rule + ": line " + line + ": " + why);
    }

    private Element element() {
        return trees.getElement(getCurrentPath());
    }

    private TypeMirror typeOf(Tree tree) {
        return trees.getTypeMirror(TreePath.getPath(unit, tree));
    }

    private boolean isOwn(Element element) {
        for (Element one = element; one != null; one = one.getEnclosingElement()) {
            if (one.getKind() == ElementKind.CLASS && one.getEnclosingElement().getKind() == ElementKind.PACKAGE) {
                return trees.getTree((TypeElement) one) == unit.getTypeDecls().get(0);
            }
        }
        return false;
    }

    private <T extends Tree> T around(Class<T> kind) {
        for (TreePath path = getCurrentPath().getParentPath(); path != null; path = path.getParentPath()) {
            if (kind.isInstance(path.getLeaf())) {
                return kind.cast(path.getLeaf());
            }
        }
        return null;
    }

    @Override
    public Void visitImport(ImportTree tree, Void nothing) {
        if (!IMPORTS.contains(tree.getQualifiedIdentifier().toString())) {
            breaks(4, tree, tree.toString().trim());
        }
        return super.visitImport(tree, nothing);
    }

    // Classes and fields.

    @Override
    public Void visitClass(ClassTree tree, Void nothing) {
        classes++;
        Tree parent = getCurrentPath().getParentPath().getLeaf();
        boolean top = parent instanceof CompilationUnitTree;
        boolean inside = parent instanceof ClassTree && tree.getModifiers().getFlags().contains(Modifier.STATIC);
        if (!top && !inside) {
            breaks(2, tree, "a class that is not static, local or without a name");
        }
        if (tree.getKind() != Tree.Kind.CLASS) {
            breaks(2, tree, "look at the rules for " + tree.getKind());
        }
        if (classes == MOST_CLASSES + 1) {
            breaks(11, tree, "too many classes");
        }
        int fields = 0;
        for (Tree member : tree.getMembers()) {
            boolean field = member instanceof VariableTree;
            fields += field && !((VariableTree) member).getModifiers().getFlags().contains(Modifier.STATIC) ? 1 : 0;
            if (member instanceof BlockTree) {
                breaks(5, member, "a block outside methods");
            }
        }
        if (fields > MOST_FIELDS) {
            breaks(11, tree, fields + " fields");
        }
        return super.visitClass(tree, nothing);
    }

    @Override
    public Void visitVariable(VariableTree tree, Void nothing) {
        TypeMirror type = element().asType();
        if (!isAllowed(type)) {
            breaks(3, tree, type.toString());
        }
        Set<Modifier> flags = tree.getModifiers().getFlags();
        if (flags.contains(Modifier.STATIC)) {
            boolean plain = type.getKind().isPrimitive() || type.toString().equals("java.lang.String");
            boolean written = tree.getInitializer() instanceof NewArrayTree row && row.getInitializers() != null;
            if (!flags.contains(Modifier.FINAL) || tree.getInitializer() == null || !plain && !written) {
                breaks(5, tree, tree.toString().trim());
            }
        }
        return super.visitVariable(tree, nothing);
    }

    private boolean isAllowed(TypeMirror type) {
        if (type.getKind().isPrimitive() || type.getKind() == TypeKind.VOID) {
            return true;
        }
        if (type instanceof ArrayType array) {
            TypeMirror part = array.getComponentType();
            if (part instanceof ArrayType inner) {
                return inner.getComponentType().getKind().isPrimitive();
            }
            return part.getKind().isPrimitive() || isOwnType(part);
        }
        return isOwnType(type) || TYPES.contains(type.toString().replaceAll("<.*", ""));
    }

    private boolean isOwnType(TypeMirror type) {
        return type instanceof DeclaredType declared && isOwn(declared.asElement());
    }

    // Methods and calls.

    @Override
    public Void visitMethod(MethodTree tree, Void nothing) {
        ExecutableElement method = (ExecutableElement) element();
        calls.putIfAbsent(method, new LinkedHashSet<>());
        if (!isAllowed(method.getReturnType())) {
            breaks(3, tree, method + " answers " + method.getReturnType());
        }
        if (tree.getParameters().size() > MOST_PARAMETERS) {
            breaks(11, tree, method + " takes too much");
        }
        long from = trees.getSourcePositions().getStartPosition(unit, tree);
        long to = trees.getSourcePositions().getEndPosition(unit, tree);
        long lines = unit.getLineMap().getLineNumber(to) - unit.getLineMap().getLineNumber(from) + 1;
        if (lines > MOST_LINES) {
            breaks(11, tree, method + " has " + lines + " lines");
        }
        return super.visitMethod(tree, nothing);
    }

    @Override
    public Void visitMethodInvocation(MethodInvocationTree tree, Void nothing) {
        ExecutableElement called = (ExecutableElement) trees.getElement(getCurrentPath());
        MethodTree by = around(MethodTree.class);
        if (isOwn(called) && by != null) {
            ExecutableElement caller = (ExecutableElement) trees.getElement(TreePath.getPath(unit, by));
            calls.computeIfAbsent(caller, key -> new LinkedHashSet<>()).add(called);
        }
        if (!isOwn(called) && called.getKind() != ElementKind.CONSTRUCTOR) {
            judgeLibrary(tree, called);
        }
        return super.visitMethodInvocation(tree, nothing);
    }

    private void judgeLibrary(MethodInvocationTree tree, ExecutableElement called) {
        String owner = called.getEnclosingElement().toString();
        String name = called.getSimpleName().toString();
        if (!LIBRARY.getOrDefault(owner, Set.of()).contains(name)) {
            breaks(4, tree, owner + "." + name);
        }
        if (name.equals("indexOf") && typeOf(tree.getArguments().get(0)).getKind() != TypeKind.CHAR) {
            breaks(4, tree, "indexOf of what is no char");
        }
    }

    @Override
    public Void visitNewClass(NewClassTree tree, Void nothing) {
        if (tree.getClassBody() == null && !isAllowed(typeOf(tree))) {
            breaks(3, tree, tree.toString());
        }
        forFieldsAlone(tree);
        return super.visitNewClass(tree, nothing);
    }

    @Override
    public Void visitNewArray(NewArrayTree tree, Void nothing) {
        forFieldsAlone(tree);
        return super.visitNewArray(tree, nothing);
    }

    /** Stricter than the rule: as long as no call makes anything, nothing has to be counted. */
    private void forFieldsAlone(Tree tree) {
        if (around(MethodTree.class) != null) {
            breaks(12, tree, "made by a call: " + tree);
        }
    }

    @Override
    public Void visitLambdaExpression(LambdaExpressionTree tree, Void nothing) {
        breaks(2, tree, "a lambda");
        return null;
    }

    @Override
    public Void visitMemberReference(MemberReferenceTree tree, Void nothing) {
        breaks(2, tree, "a method's reference");
        return null;
    }

    // Statements and the like.

    @Override
    public Void visitThrow(ThrowTree tree, Void nothing) {
        breaks(6, tree, "throw");
        return super.visitThrow(tree, nothing);
    }

    @Override
    public Void visitTry(TryTree tree, Void nothing) {
        breaks(6, tree, "try");
        return super.visitTry(tree, nothing);
    }

    @Override
    public Void visitSynchronized(SynchronizedTree tree, Void nothing) {
        breaks(6, tree, "synchronized");
        return super.visitSynchronized(tree, nothing);
    }

    @Override
    public Void visitAssert(AssertTree tree, Void nothing) {
        breaks(6, tree, "assert");
        return super.visitAssert(tree, nothing);
    }

    @Override
    public Void visitBinary(BinaryTree tree, Void nothing) {
        boolean same = tree.getKind() == Tree.Kind.EQUAL_TO || tree.getKind() == Tree.Kind.NOT_EQUAL_TO;
        boolean texts = isText(tree.getLeftOperand()) && isText(tree.getRightOperand());
        if (same && texts) {
            breaks(6, tree, tree.toString());
        }
        if (tree.getKind() == Tree.Kind.PLUS && (isText(tree.getLeftOperand()) || isText(tree.getRightOperand()))) {
            breaks(10, tree, tree.toString());
        }
        return super.visitBinary(tree, nothing);
    }

    private boolean isText(ExpressionTree tree) {
        String type = typeOf(tree).toString();
        return type.equals("java.lang.String") || type.equals("java.lang.Integer");
    }

    @Override
    public Void visitTypeCast(TypeCastTree tree, Void nothing) {
        if (!typeOf(tree).getKind().isPrimitive()) {
            breaks(6, tree, "look whether the cast stands behind its test: " + tree);
        }
        return super.visitTypeCast(tree, nothing);
    }

    @Override
    public Void visitLiteral(LiteralTree tree, Void nothing) {
        if (tree.getValue() instanceof String text && !text.chars().allMatch(sign -> sign >= 1 && sign <= 127)) {
            breaks(4, tree, "signs of a constant");
        }
        return super.visitLiteral(tree, nothing);
    }

    @Override
    public Void visitForLoop(ForLoopTree tree, Void nothing) {
        if (tree.getCondition() == null || tree.getUpdate().isEmpty()) {
            breaks(9, tree, "a for without a test or a count");
        }
        return super.visitForLoop(tree, nothing);
    }

    @Override
    public Void visitWhileLoop(WhileLoopTree tree, Void nothing) {
        breaks(9, tree, "look whether this while has an end, or make it a for");
        return super.visitWhileLoop(tree, nothing);
    }

    @Override
    public Void visitDoWhileLoop(DoWhileLoopTree tree, Void nothing) {
        breaks(9, tree, "look whether this do has an end, or make it a for");
        return super.visitDoWhileLoop(tree, nothing);
    }

    // Who calls whom.

    /** Methods that call one another must be private and carry a number; the others go at most eight deep. */
    void judgeCalls() {
        Map<ExecutableElement, Set<ExecutableElement>> reach = reach();
        Map<ExecutableElement, Integer> depths = new HashMap<>();
        for (ExecutableElement method : calls.keySet()) {
            if (reach.get(method).contains(method)) {
                boolean hidden = method.getModifiers().contains(Modifier.PRIVATE);
                if (!hidden || method.getParameters().isEmpty()) {
                    breaks(8, trees.getTree(method), method + " calls itself");
                }
            }
            if (depth(method, reach, depths) > MOST_CALLS) {
                breaks(11, trees.getTree(method), method + " begins calls that go too deep");
            }
        }
    }

    /** By methods, all that one of them may call, straight or through others. */
    private Map<ExecutableElement, Set<ExecutableElement>> reach() {
        Map<ExecutableElement, Set<ExecutableElement>> reach = new HashMap<>();
        for (ExecutableElement method : calls.keySet()) {
            Set<ExecutableElement> found = new LinkedHashSet<>();
            List<ExecutableElement> next = new ArrayList<>(calls.get(method));
            while (!next.isEmpty()) {
                ExecutableElement one = next.remove(next.size() - 1);
                if (found.add(one)) {
                    next.addAll(calls.getOrDefault(one, Set.of()));
                }
            }
            reach.put(method, found);
        }
        return reach;
    }

    /** The longest way down from a method; those that call one another count as one. */
    private int depth(ExecutableElement method, Map<ExecutableElement, Set<ExecutableElement>> reach,
            Map<ExecutableElement, Integer> depths) {
        if (depths.containsKey(method)) {
            return depths.get(method);
        }
        Set<ExecutableElement> ring = new LinkedHashSet<>(Set.of(method));
        for (ExecutableElement other : reach.get(method)) {
            if (reach.get(other).contains(method)) {
                ring.add(other);
            }
        }
        int deepest = 0;
        for (ExecutableElement one : ring) {
            for (ExecutableElement called : calls.get(one)) {
                deepest = ring.contains(called) ? deepest : Math.max(deepest, depth(called, reach, depths));
            }
        }
        for (ExecutableElement one : ring) {
            depths.put(one, deepest + 1);
        }
        return deepest + 1;
    }
}
