import com.sun.source.tree.*;
import com.sun.source.util.JavacTask;
import com.sun.source.util.SourcePositions;
import com.sun.source.util.TreePath;
import com.sun.source.util.TreePathScanner;
import com.sun.source.util.Trees;
import java.io.File;
import java.util.ArrayDeque;
import java.util.ArrayList;
import java.util.Deque;
import java.util.HashSet;
import java.util.LinkedHashMap;
import java.util.LinkedHashSet;
import java.util.List;
import java.util.Map;
import java.util.Set;
import javax.lang.model.element.Element;
import javax.lang.model.element.ElementKind;
import javax.lang.model.element.Modifier;
import javax.lang.model.type.TypeMirror;
import javax.tools.JavaCompiler;
import javax.tools.StandardJavaFileManager;
import javax.tools.ToolProvider;

/** What of LANGUAGE.md can be seen in the source's tree. */
final class LanguageTest extends TreePathScanner<Void, Void> {
    private static final Set<Tree.Kind> FORBIDDEN = Set.of(Tree.Kind.THROW, Tree.Kind.TRY, Tree.Kind.CATCH, Tree.Kind.SYNCHRONIZED, Tree.Kind.ASSERT,
        Tree.Kind.LAMBDA_EXPRESSION, Tree.Kind.MEMBER_REFERENCE, Tree.Kind.SWITCH_EXPRESSION, Tree.Kind.IMPORT, Tree.Kind.PACKAGE);
    private static final Set<String> LIBRARY = Set.of("java.lang.Math.max", "java.lang.Math.min", "java.lang.Math.abs", "java.lang.Math.floorDiv", "java.lang.Math.floorMod",
        "java.lang.Integer.compare", "java.lang.Integer.bitCount", "java.lang.Integer.max", "java.lang.Integer.min", "java.lang.Long.compare", "java.lang.Long.max",
        "java.lang.Long.min", "java.lang.System.arraycopy");

    private static final Set<String> CONSTANTS = Set.of("int", "long", "boolean", "char", "String", "int[]", "long[]", "char[]", "byte[]");
    private static final Set<String> SIMPLE = Set.of("int", "long", "short", "byte", "char", "boolean", "double", "float", "java.lang.String",
        "java.lang.StringBuilder");

    private final Trees trees;
    private final SourcePositions positions;
    private final CompilationUnitTree unit;
    private final List<String> faults = new ArrayList<>();
    private final Set<String> face = new HashSet<>();
    private int classes = 0;
    /** What each method and constructor of the program calls, the library's methods too. */
    private final Map<Element, Set<Element>> calls = new LinkedHashMap<>();
    private final Deque<Element> within = new ArrayDeque<>();

    private LanguageTest(Trees trees, CompilationUnitTree unit) {
        this.trees = trees;
        this.positions = trees.getSourcePositions();
        this.unit = unit;
    }

    public static void main(String[] args) throws Exception {
        JavaCompiler javac = ToolProvider.getSystemJavaCompiler();
        StandardJavaFileManager files = javac.getStandardFileManager(null, null, null);
        String program = System.getProperty("program", "src/main/java/EveryTwentyMinutes.java");
        JavacTask task = (JavacTask) javac.getTask(null, files, null, List.of("-proc:none"), null, files.getJavaFileObjects(new File(program)));
        CompilationUnitTree unit = task.parse().iterator().next();
        task.analyze();
        LanguageTest test = new LanguageTest(Trees.instance(task), unit);
        test.scan(new TreePath(unit), null);
        if (unit.getTypeDecls().size() != 1) test.fault(unit, "rule 1: one class");
        if (test.classes > 12) test.fault(unit, "rule 11: classes");
        for (Element method : test.calls.keySet()) test.depth(method, new HashSet<>());
        test.faults.forEach(System.out::println);
        System.out.println(test.faults.isEmpty() ? "the language is kept to" : test.faults.size() + " faults");
        if (!test.faults.isEmpty()) System.exit(1);
    }

    private long line(long position) { return unit.getLineMap().getLineNumber(position); }

    private void fault(Tree t, String what) { faults.add(what + ", line " + line(positions.getStartPosition(unit, t))); }

    @Override public Void scan(Tree t, Void v) {
        if (t != null && FORBIDDEN.contains(t.getKind())) fault(t, "rule 6: " + t.getKind());
        return super.scan(t, v);
    }

    @Override public Void visitClass(ClassTree c, Void v) {
        classes++;
        Set<Modifier> m = c.getModifiers().getFlags();
        boolean outer = getCurrentPath().getParentPath().getLeaf() == unit;
        if (outer) for (Tree t : c.getMembers()) if (t instanceof MethodTree method && method.getReturnType() != null
            && method.getModifiers().getFlags().contains(Modifier.PUBLIC)) face.add(method.getName().toString());
        if (!outer && !m.contains(Modifier.STATIC)) fault(c, "rule 2: a class that is not static");
        int fields = 0;
        for (Tree t : c.getMembers()) {
            if (t instanceof BlockTree) fault(t, "rule 5: an initialiser block");
            if (t instanceof VariableTree f) {
                boolean still = f.getModifiers().getFlags().contains(Modifier.STATIC);
                if (still && !f.getModifiers().getFlags().contains(Modifier.FINAL)) fault(t, "rule 5: a static field that is not final");
                if (still && !CONSTANTS.contains(f.getType().toString())) fault(t, "rule 5: a static field of type " + f.getType());
                if (!still) fields++;
            }
        }
        if (fields > 20) fault(c, "rule 11: fields");
        return super.visitClass(c, v);
    }

    @Override public Void visitMethod(MethodTree m, Void v) {
        if (getCurrentPath().getParentPath().getParentPath().getLeaf() != unit && face.contains(m.getName().toString())) fault(m, "rule 1: the name of a public method");
        if (m.getParameters().size() > 7) fault(m, "rule 11: parameters");
        long lines = line(positions.getEndPosition(unit, m)) - line(positions.getStartPosition(unit, m)) + 1;
        if (lines > 60) fault(m, "rule 11: " + lines + " lines");
        Element e = trees.getElement(getCurrentPath());
        calls.computeIfAbsent(e, x -> new LinkedHashSet<>());
        within.push(e);
        super.visitMethod(m, v);
        within.pop();
        return null;
    }

    /** How deep the calls of a method go, itself counted; a method that calls itself is no further call. */
    private int depth(Element method, Set<Element> open) {
        int deepest = 0;
        open.add(method);
        for (Element callee : calls.getOrDefault(method, Set.of())) if (!open.contains(callee)) deepest = Math.max(deepest, depth(callee, open));
        open.remove(method);
        if (open.isEmpty() && deepest + 1 > 8) faults.add("rule 11: calls go " + (deepest + 1) + " deep from " + method);
        return deepest + 1;
    }

    private void called(Element e) {
        if (e != null && !within.isEmpty()) calls.get(within.peek()).add(e);
    }

    @Override public Void visitMethodInvocation(MethodInvocationTree t, Void v) {
        Element e = trees.getElement(new TreePath(getCurrentPath(), t.getMethodSelect()));
        called(e);
        if (e != null && e.getKind() == ElementKind.METHOD && isLibrary(e) && !LIBRARY.contains(e.getEnclosingElement() + "." + e.getSimpleName())) fault(t, "rule 4: " + e);
        return super.visitMethodInvocation(t, v);
    }

    @Override public Void visitMemberSelect(MemberSelectTree t, Void v) {
        Element e = trees.getElement(getCurrentPath());
        if (e != null && e.getKind() == ElementKind.FIELD && isLibrary(e)) fault(t, "rule 4: " + e.getEnclosingElement() + "." + e);
        return super.visitMemberSelect(t, v);
    }

    @Override public Void visitVariable(VariableTree t, Void v) {
        String type = String.valueOf(trees.getTypeMirror(getCurrentPath()));
        String simple = type.replaceFirst("\\[\\]$", "");
        if (!SIMPLE.contains(simple) && !simple.matches("EveryTwentyMinutes\\.\\w+|(int|long)\\[\\]")) fault(t, "rule 3: " + type);
        return super.visitVariable(t, v);
    }

    @Override public Void visitForLoop(ForLoopTree t, Void v) {
        if (t.getCondition() == null || t.getUpdate().isEmpty()) fault(t, "rule 9: a loop without a condition or a step");
        return super.visitForLoop(t, v);
    }

    @Override public Void visitWhileLoop(WhileLoopTree t, Void v) {
        if (t.getCondition().toString().equals("(true)")) fault(t, "rule 9: a loop without a condition");
        return super.visitWhileLoop(t, v);
    }

    @Override public Void visitDoWhileLoop(DoWhileLoopTree t, Void v) {
        if (t.getCondition().toString().equals("(true)")) fault(t, "rule 9: a loop without a condition");
        return super.visitDoWhileLoop(t, v);
    }

    @Override public Void visitNewClass(NewClassTree t, Void v) {
        if (t.getClassBody() != null) fault(t, "rule 2: an anonymous class");
        called(trees.getElement(getCurrentPath()));
        return super.visitNewClass(t, v);
    }

    @Override public Void visitBinary(BinaryTree t, Void v) {
        TypeMirror type = trees.getTypeMirror(getCurrentPath());
        if (t.getKind() == Tree.Kind.PLUS && type != null && type.toString().equals("java.lang.String")) fault(t, "rule 10: texts joined by +");
        return super.visitBinary(t, v);
    }

    private static boolean isLibrary(Element e) { return e.getEnclosingElement() != null && e.getEnclosingElement().toString().startsWith("java."); }
}
