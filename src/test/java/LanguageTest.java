import com.sun.source.tree.AssertTree;
import com.sun.source.tree.BinaryTree;
import com.sun.source.tree.BlockTree;
import com.sun.source.tree.CatchTree;
import com.sun.source.tree.ClassTree;
import com.sun.source.tree.CompilationUnitTree;
import com.sun.source.tree.CompoundAssignmentTree;
import com.sun.source.tree.DoWhileLoopTree;
import com.sun.source.tree.ExpressionTree;
import com.sun.source.tree.ForLoopTree;
import com.sun.source.tree.LambdaExpressionTree;
import com.sun.source.tree.LiteralTree;
import com.sun.source.tree.MemberReferenceTree;
import com.sun.source.tree.MethodInvocationTree;
import com.sun.source.tree.MethodTree;
import com.sun.source.tree.NewClassTree;
import com.sun.source.tree.SynchronizedTree;
import com.sun.source.tree.ThrowTree;
import com.sun.source.tree.Tree;
import com.sun.source.tree.TryTree;
import com.sun.source.tree.VariableTree;
import com.sun.source.tree.WhileLoopTree;
import com.sun.source.util.JavacTask;
import com.sun.source.util.TreePathScanner;
import com.sun.source.util.Trees;
import java.io.File;
import java.io.IOException;
import java.util.ArrayList;
import java.util.List;
import java.util.Map;
import java.util.Set;
import java.util.TreeMap;
import java.util.TreeSet;
import javax.lang.model.element.Element;
import javax.lang.model.element.ElementKind;
import javax.lang.model.element.ExecutableElement;
import javax.lang.model.element.Modifier;
import javax.lang.model.element.TypeElement;
import javax.tools.JavaCompiler;
import javax.tools.StandardJavaFileManager;
import javax.tools.ToolProvider;

/** What a machine can see of LANGUAGE.md's rules in the source: the library, the kinds of statements, the sizes. */
public final class LanguageTest extends TreePathScanner<Void, String> {
    private static final String SOURCE = "src/main/java/SupportSolver.java";
    private static final Set<String> EXCEPTIONS = Set.of("IllegalStateException", "IllegalArgumentException",
            "IndexOutOfBoundsException", "ArithmeticException", "UnsupportedOperationException",
            "NoSuchElementException", "RuntimeException");
    /** What the source may call of the library; more of rule 4 can be added when it is needed. */
    private static final Set<String> LIBRARY = Set.of("java.lang.String.length", "java.lang.String.charAt",
            "java.lang.Integer.bitCount", "java.lang.Long.bitCount", "java.lang.Math.min", "java.lang.Math.max",
            "java.lang.System.arraycopy");
    private static final Set<String> STATIC_TYPES = Set.of("int", "long", "boolean", "char", "String", "int[]",
            "long[]", "char[]", "byte[]");
    private static final int MOST_CLASSES = 12;
    private static final int MOST_FIELDS = 20;
    private static final int MOST_PARAMETERS = 7;
    private static final int MOST_LINES = 60;
    private static final int MOST_CALLS = 8;

    private final CompilationUnitTree unit;
    private final Trees trees;
    private final Types types;
    private final Map<String, TreeSet<String>> calls = new TreeMap<>();
    private final Map<String, Boolean> isPrivateStatic = new TreeMap<>();
    private final List<ExecutableElement> declared = new ArrayList<>();
    private int classes = 0;

    /** Tells whether a method overrides another one. */
    interface Types {
        boolean overrides(ExecutableElement one, ExecutableElement other);
    }

    private LanguageTest(CompilationUnitTree unit, Trees trees, Types types) {
        this.unit = unit;
        this.trees = trees;
        this.types = types;
    }

    private String at(Tree tree) {
        return "line " + unit.getLineMap().getLineNumber(trees.getSourcePositions().getStartPosition(unit, tree));
    }

    private long lines(Tree tree) {
        long start = trees.getSourcePositions().getStartPosition(unit, tree);
        long end = trees.getSourcePositions().getEndPosition(unit, tree);
        return unit.getLineMap().getLineNumber(end) - unit.getLineMap().getLineNumber(start) + 1;
    }

    private void need(String rule, Tree tree, boolean holds) {
        Check.is("rule " + rule + ", " + at(tree), holds, true);
    }

    private void forbidden(String rule, Tree tree) {
        need(rule, tree, false);
    }

    private static String told(Element element) {
        return element.getEnclosingElement() + "." + element;
    }

    @Override
    public Void visitClass(ClassTree tree, String in) {
        classes++;
        Set<Modifier> flags = tree.getModifiers().getFlags();
        boolean isOuter = getCurrentPath().getParentPath().getLeaf() == unit;
        need("1: the face is public and final", tree,
                !isOuter || flags.containsAll(Set.of(Modifier.PUBLIC, Modifier.FINAL)));
        need("1: a class inside is static and not open", tree, isOuter || flags.contains(Modifier.STATIC)
                && !flags.contains(Modifier.PUBLIC) && !flags.contains(Modifier.PROTECTED));
        need("2: no local class", tree,
                isOuter || getCurrentPath().getParentPath().getLeaf() instanceof ClassTree);
        int fields = 0;
        for (Tree member : tree.getMembers()) {
            boolean isField = member instanceof VariableTree;
            if (isField && !((VariableTree) member).getModifiers().getFlags().contains(Modifier.STATIC)) {
                fields++;
            }
            need("5: no static block", member, !(member instanceof BlockTree));
        }
        need("11: fields", tree, fields <= MOST_FIELDS);
        return super.visitClass(tree, in);
    }

    @Override
    public Void visitVariable(VariableTree tree, String in) {
        Set<Modifier> flags = tree.getModifiers().getFlags();
        if (flags.contains(Modifier.STATIC)) {
            need("5: a static field is a constant", tree, flags.contains(Modifier.FINAL)
                    && STATIC_TYPES.contains(tree.getType().toString()) && tree.getInitializer() != null);
        }
        return super.visitVariable(tree, in);
    }

    @Override
    public Void visitMethod(MethodTree tree, String in) {
        ExecutableElement method = (ExecutableElement) trees.getElement(getCurrentPath());
        declared.add(method);
        calls.putIfAbsent(told(method), new TreeSet<>());
        isPrivateStatic.put(told(method), method.getModifiers().containsAll(Set.of(Modifier.PRIVATE, Modifier.STATIC)));
        need("11: parameters", tree, tree.getParameters().size() <= MOST_PARAMETERS);
        need("11: lines", tree, lines(tree) <= MOST_LINES);
        need("6: no equals, hashCode, toString", tree,
                !Set.of("equals", "hashCode", "toString").contains(tree.getName().toString()));
        return super.visitMethod(tree, told(method));
    }

    private void addCall(String in, Element element) {
        if (in != null && told(element).startsWith("SupportSolver")) {
            calls.computeIfAbsent(in, key -> new TreeSet<>()).add(told(element));
        }
    }

    @Override
    public Void visitMethodInvocation(MethodInvocationTree tree, String in) {
        Element element = trees.getElement(getCurrentPath());
        String name = element.getEnclosingElement() + "." + element.getSimpleName();
        boolean isSuper = name.equals("java.lang.Object.<init>");
        boolean isOwn = name.startsWith("SupportSolver");
        need("4: " + name, tree, isOwn || isSuper || LIBRARY.contains(name));
        addCall(in, element);
        return super.visitMethodInvocation(tree, in);
    }

    @Override
    public Void visitNewClass(NewClassTree tree, String in) {
        Element element = trees.getElement(getCurrentPath());
        boolean isThrown = getCurrentPath().getParentPath().getLeaf() instanceof ThrowTree;
        need("4: only own objects are made", tree,
                isThrown || element.getEnclosingElement().toString().startsWith("SupportSolver"));
        need("2: no anonymous class", tree, tree.getClassBody() == null);
        addCall(in, element);
        return super.visitNewClass(tree, in);
    }

    @Override
    public Void visitThrow(ThrowTree tree, String in) {
        ExpressionTree thrown = tree.getExpression();
        boolean isNew = thrown instanceof NewClassTree
                && EXCEPTIONS.contains(((NewClassTree) thrown).getIdentifier().toString());
        need("6: what is thrown", tree, isNew);
        for (ExpressionTree argument : isNew ? ((NewClassTree) thrown).getArguments() : List.<ExpressionTree>of()) {
            need("6: a written text", tree, argument instanceof LiteralTree);
        }
        need("6: no throw in a constructor", tree, in != null && !isConstructor(in));
        return super.visitThrow(tree, in);
    }

    private static boolean isConstructor(String told) {
        String owner = told.substring(0, told.lastIndexOf('.', told.indexOf('(')));
        String name = told.substring(owner.length() + 1, told.indexOf('('));
        return owner.endsWith(name);
    }

    @Override
    public Void visitTry(TryTree tree, String in) {
        need("6: no finally, no resources", tree, tree.getFinallyBlock() == null && tree.getResources().isEmpty());
        return super.visitTry(tree, in);
    }

    @Override
    public Void visitCatch(CatchTree tree, String in) {
        need("6: what is caught", tree, EXCEPTIONS.contains(tree.getParameter().getType().toString()));
        return super.visitCatch(tree, in);
    }

    @Override
    public Void visitBinary(BinaryTree tree, String in) {
        String type = trees.getTypeMirror(getCurrentPath()).toString();
        need("10: texts are not joined by +", tree, !type.equals("java.lang.String"));
        return super.visitBinary(tree, in);
    }

    @Override
    public Void visitCompoundAssignment(CompoundAssignmentTree tree, String in) {
        String type = trees.getTypeMirror(getCurrentPath()).toString();
        need("10: texts are not joined by +=", tree, !type.equals("java.lang.String"));
        return super.visitCompoundAssignment(tree, in);
    }

    @Override
    public Void visitForLoop(ForLoopTree tree, String in) {
        need("9: a loop has a condition", tree,
                tree.getCondition() != null && !(tree.getCondition() instanceof LiteralTree));
        return super.visitForLoop(tree, in);
    }

    @Override
    public Void visitWhileLoop(WhileLoopTree tree, String in) {
        need("9: a loop has a condition", tree, !tree.getCondition().toString().equals("(true)"));
        return super.visitWhileLoop(tree, in);
    }

    @Override
    public Void visitDoWhileLoop(DoWhileLoopTree tree, String in) {
        need("9: a loop has a condition", tree, !tree.getCondition().toString().equals("(true)"));
        return super.visitDoWhileLoop(tree, in);
    }

    @Override
    public Void visitLambdaExpression(LambdaExpressionTree tree, String in) {
        forbidden("2: no lambda", tree);
        return null;
    }

    @Override
    public Void visitMemberReference(MemberReferenceTree tree, String in) {
        forbidden("2: no method reference", tree);
        return null;
    }

    @Override
    public Void visitSynchronized(SynchronizedTree tree, String in) {
        forbidden("6: no synchronized", tree);
        return null;
    }

    @Override
    public Void visitAssert(AssertTree tree, String in) {
        forbidden("6: no assert", tree);
        return null;
    }

    /** Calls of a method reach the methods that override it. */
    private void addOverriders() {
        for (ExecutableElement one : declared) {
            for (ExecutableElement other : declared) {
                if (one != other && one.getKind() == ElementKind.METHOD && types.overrides(one, other)) {
                    calls.get(told(other)).add(told(one));
                }
            }
        }
    }

    /** The methods on the longest way of calls from here, those on the way before not being entered again. */
    private List<String> longestWay(String from, TreeSet<String> before) {
        List<String> longest = new ArrayList<>();
        before.add(from);
        for (String to : calls.getOrDefault(from, new TreeSet<>())) {
            if (!before.contains(to)) {
                List<String> way = longestWay(to, before);
                longest = way.size() > longest.size() ? way : longest;
            } else if (to.equals(from)) {
                Check.is("rule 8: a method that calls itself is private and static: " + to, isPrivateStatic.get(to), true);
            } else {
                Check.complain("rule 8: methods that call one another: " + from + " and " + to);
            }
        }
        before.remove(from);
        List<String> way = new ArrayList<>();
        way.add(from);
        way.addAll(longest);
        return way;
    }

    private void checkAll() {
        scan(unit, null);
        Check.is("rule 1: one class in the file", unit.getTypeDecls().size(), 1);
        Check.is("rule 11: classes", classes <= MOST_CLASSES, true);
        addOverriders();
        List<String> longest = new ArrayList<>();
        for (String from : calls.keySet()) {
            List<String> way = longestWay(from, new TreeSet<>());
            longest = way.size() > longest.size() ? way : longest;
        }
        Check.is("rule 11: calls deep " + longest, steps(longest) <= MOST_CALLS, true);
        for (var it : unit.getImports()) {
            Check.same("rule 4: an import", it.getQualifiedIdentifier().toString(), "java.util.NoSuchElementException");
        }
        for (ExecutableElement it : declared) {
            boolean isFace = ((TypeElement) it.getEnclosingElement()).getQualifiedName().contentEquals("SupportSolver");
            Check.is("rule 1: " + it, !isFace || it.getModifiers().contains(Modifier.PUBLIC)
                    || it.getModifiers().contains(Modifier.PRIVATE), true);
        }
    }

    /** The calls on a way; an abstract method and the one that overrides it are one call. */
    private static int steps(List<String> way) {
        int steps = way.size();
        for (int i = 1; i < way.size(); i++) {
            steps -= simple(way.get(i)).equals(simple(way.get(i - 1))) ? 1 : 0;
        }
        return steps;
    }

    private static String simple(String told) {
        int end = told.indexOf('(');
        return told.substring(told.lastIndexOf('.', end) + 1);
    }

    public static void main(String[] args) throws IOException {
        JavaCompiler compiler = ToolProvider.getSystemJavaCompiler();
        try (StandardJavaFileManager files = compiler.getStandardFileManager(null, null, null)) {
            JavacTask task = (JavacTask) compiler.getTask(null, files, null, List.of("-proc:none"), null,
                    files.getJavaFileObjects(new File(SOURCE)));
            CompilationUnitTree unit = task.parse().iterator().next();
            task.analyze();
            Types types = (one, other) -> task.getElements().overrides(one, other,
                    (TypeElement) one.getEnclosingElement());
            new LanguageTest(unit, Trees.instance(task), types).checkAll();
        }
        Check.end();
    }
}
