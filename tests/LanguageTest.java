import com.sun.source.tree.AssertTree;
import com.sun.source.tree.BinaryTree;
import com.sun.source.tree.ClassTree;
import com.sun.source.tree.CompilationUnitTree;
import com.sun.source.tree.DoWhileLoopTree;
import com.sun.source.tree.ForLoopTree;
import com.sun.source.tree.IdentifierTree;
import com.sun.source.tree.ImportTree;
import com.sun.source.tree.LambdaExpressionTree;
import com.sun.source.tree.LiteralTree;
import com.sun.source.tree.MemberReferenceTree;
import com.sun.source.tree.MemberSelectTree;
import com.sun.source.tree.MethodInvocationTree;
import com.sun.source.tree.MethodTree;
import com.sun.source.tree.NewArrayTree;
import com.sun.source.tree.NewClassTree;
import com.sun.source.tree.SynchronizedTree;
import com.sun.source.tree.ThrowTree;
import com.sun.source.tree.Tree;
import com.sun.source.tree.TryTree;
import com.sun.source.tree.VariableTree;
import com.sun.source.tree.WhileLoopTree;
import com.sun.source.util.JavacTask;
import com.sun.source.util.SourcePositions;
import com.sun.source.util.TreePathScanner;
import com.sun.source.util.TreeScanner;
import com.sun.source.util.Trees;
import java.io.File;
import java.util.HashMap;
import java.util.HashSet;
import java.util.LinkedHashSet;
import java.util.List;
import java.util.Map;
import java.util.Set;
import javax.lang.model.element.Element;
import javax.lang.model.element.Modifier;
import javax.tools.JavaCompiler;
import javax.tools.StandardJavaFileManager;
import javax.tools.ToolProvider;

/** The rules of LANGUAGE.md that can be read off the source. */
public final class LanguageTest extends Checks {
    private static final Set<String> IMPORTS = Set.of("java.util.ArrayList", "java.util.List", "java.util.Arrays", "java.util.Iterator");

    private static final Map<String, Set<String>> LIBRARY = Map.of(
        "java.lang.String", Set.of("length", "charAt", "isEmpty", "equals", "indexOf", "substring", "toCharArray"),
        "java.lang.Math", Set.of("abs", "min", "max", "floorDiv", "floorMod"),
        "java.lang.System", Set.of("arraycopy"),
        "java.util.Arrays", Set.of("copyOf", "copyOfRange", "fill"));

    private static SourcePositions positions;
    private static CompilationUnitTree unit;
    private static final Set<String> publicNames = new HashSet<>();
    private static final Set<String> privates = new HashSet<>();
    private static final Map<String, Set<String>> calls = new HashMap<>();
    private static int classes = 0;

    private static void broken(int rule, String what) {
        due("rule " + rule + ": " + what, 1, 0);
    }

    private static int line(long position) {
        return (int) unit.getLineMap().getLineNumber(position);
    }

    private static final class Reader extends TreeScanner<Void, Void> {
        private String method = null;
        private int depth = 0;

        @Override public Void visitClass(ClassTree c, Void v) {
            classes++;
            String name = c.getSimpleName().toString();
            Set<Modifier> is = c.getModifiers().getFlags();
            if (method != null || name.isEmpty()) broken(2, "a local or anonymous class");
            if (depth > 0 && c.getKind() == Tree.Kind.CLASS && !is.contains(Modifier.STATIC)) broken(2, name + " is not static");
            if (depth > 0 && (is.contains(Modifier.PUBLIC) || is.contains(Modifier.PROTECTED))) broken(1, name + " is public");
            int fields = 0;
            for (Tree m : c.getMembers()) {
                if (m.getKind() == Tree.Kind.BLOCK) broken(5, "an initialiser block in " + name);
                if (m instanceof VariableTree f && !f.getModifiers().getFlags().contains(Modifier.STATIC)) fields++;
                if (m instanceof VariableTree f) field(f);
                if (m instanceof MethodTree t) face(t, depth);
            }
            if (fields > 20) broken(11, name + " has " + fields + " fields");
            depth++;
            super.visitClass(c, v);
            depth--;
            return null;
        }

        private static void field(VariableTree f) {
            Set<Modifier> is = f.getModifiers().getFlags();
            String type = f.getType().toString();
            if (!is.contains(Modifier.STATIC)) return;
            if (!is.contains(Modifier.FINAL)) broken(5, f.getName() + " is static and not final");
            if (!Set.of("int", "long", "boolean", "char", "String", "int[]", "long[]", "char[]", "byte[]").contains(type)) {
                broken(5, f.getName() + " is a static " + type);
            }
        }

        private static void face(MethodTree t, int depth) {
            Set<Modifier> is = t.getModifiers().getFlags();
            String name = t.getName().toString();
            if (depth == 0 && !is.contains(Modifier.PRIVATE) && !is.contains(Modifier.PUBLIC)) broken(1, name + " is package-visible");
            boolean own = !is.contains(Modifier.PUBLIC) && !name.equals("<init>");
            if (own && publicNames.contains(name)) broken(1, name + " is a public method's name");
            if (Set.of("equals", "hashCode", "toString").contains(name)) broken(6, name);
        }

        @Override public Void visitMethod(MethodTree t, Void v) {
            String name = t.getName().toString();
            int lines = line(positions.getEndPosition(unit, t)) - line(positions.getStartPosition(unit, t)) + 1;
            if (lines > 60) broken(11, name + " has " + lines + " lines");
            if (t.getParameters().size() > 7) broken(11, name + " has " + t.getParameters().size() + " parameters");
            method = name;
            if (t.getModifiers().getFlags().contains(Modifier.PRIVATE)) privates.add(name);
            calls.computeIfAbsent(name, k -> new LinkedHashSet<>());
            super.visitMethod(t, v);
            method = null;
            return null;
        }

        @Override public Void visitMethodInvocation(MethodInvocationTree t, Void v) {
            Tree select = t.getMethodSelect();
            String name = select instanceof MemberSelectTree s ? s.getIdentifier().toString() : ((IdentifierTree) select).getName().toString();
            if (method != null) calls.get(method).add(name);
            if (name.endsWith("Exact")) broken(4, name);
            return super.visitMethodInvocation(t, v);
        }

        @Override public Void visitImport(ImportTree t, Void v) {
            if (!IMPORTS.contains(t.getQualifiedIdentifier().toString())) broken(4, t.toString());
            return null;
        }

        @Override public Void visitForLoop(ForLoopTree t, Void v) {
            if (t.getCondition() == null) broken(9, "a for without a bound");
            return super.visitForLoop(t, v);
        }

        @Override public Void visitWhileLoop(WhileLoopTree t, Void v) {
            broken(9, "a while, whose end is not to be seen");
            return null;
        }

        @Override public Void visitDoWhileLoop(DoWhileLoopTree t, Void v) {
            broken(9, "a do, whose end is not to be seen");
            return null;
        }

        @Override public Void visitLambdaExpression(LambdaExpressionTree t, Void v) {
            broken(2, "a lambda");
            return null;
        }

        @Override public Void visitMemberReference(MemberReferenceTree t, Void v) {
            broken(2, "a method reference");
            return null;
        }

        @Override public Void visitNewClass(NewClassTree t, Void v) {
            if (t.getClassBody() != null) broken(2, "an anonymous class");
            return super.visitNewClass(t, v);
        }

        @Override public Void visitThrow(ThrowTree t, Void v) {
            broken(6, "throw");
            return null;
        }

        @Override public Void visitTry(TryTree t, Void v) {
            broken(6, "try");
            return null;
        }

        @Override public Void visitSynchronized(SynchronizedTree t, Void v) {
            broken(6, "synchronized");
            return null;
        }

        @Override public Void visitAssert(AssertTree t, Void v) {
            broken(6, "assert");
            return null;
        }

        @Override public Void visitBinary(BinaryTree t, Void v) {
            for (Tree part : List.of(t.getLeftOperand(), t.getRightOperand())) {
                if (t.getKind() == Tree.Kind.PLUS && part.getKind() == Tree.Kind.STRING_LITERAL) broken(10, "texts joined by +");
            }
            return super.visitBinary(t, v);
        }

        @Override public Void visitLiteral(LiteralTree t, Void v) {
            String text = String.valueOf(t.getValue());
            for (int k = 0; k < text.length(); k++) if (text.charAt(k) < 1 || text.charAt(k) > 127) broken(4, "a sign in " + text);
            return null;
        }
    }

    /** Which library each call goes to; and that only what is made with an object makes anything: a run is one room. */
    private static final class Reached extends TreePathScanner<Void, Void> {
        private final Trees trees;
        private String method = null;

        Reached(Trees trees) {
            this.trees = trees;
        }

        @Override public Void visitMethod(MethodTree t, Void v) {
            method = t.getName().toString();
            super.visitMethod(t, v);
            method = null;
            return null;
        }

        private void made(String what) {
            if (method != null && !method.equals("<init>")) broken(12, method + " makes " + what);
        }

        @Override public Void visitNewClass(NewClassTree t, Void v) {
            made("an object");
            return super.visitNewClass(t, v);
        }

        @Override public Void visitNewArray(NewArrayTree t, Void v) {
            made("an array");
            return super.visitNewArray(t, v);
        }

        @Override public Void visitMethodInvocation(MethodInvocationTree t, Void v) {
            Element called = trees.getElement(getCurrentPath());
            String owner = called.getEnclosingElement().toString();
            String name = called.getSimpleName().toString();
            boolean own = owner.startsWith("WhoMustSwear") || name.equals("<init>");
            if (!own && !LIBRARY.getOrDefault(owner, Set.of()).contains(name)) broken(4, owner + "." + name);
            return super.visitMethodInvocation(t, v);
        }
    }

    /** The longest row of calls below a method, methods that call themselves in a ring counted once each. */
    private static int deepest(String method, Set<String> open) {
        if (!calls.containsKey(method) || !open.add(method)) return 0;
        int most = 0;
        for (String called : calls.get(method)) most = Math.max(most, deepest(called, open));
        open.remove(method);
        return 1 + most;
    }

    private static boolean comesBack(String method, String to, Set<String> seen) {
        if (!calls.containsKey(method) || !seen.add(method)) return false;
        for (String called : calls.get(method)) if (called.equals(to) || comesBack(called, to, seen)) return true;
        return false;
    }

    private static final class PublicNames extends TreeScanner<Void, Void> {
        @Override public Void visitMethod(MethodTree t, Void v) {
            if (t.getModifiers().getFlags().contains(Modifier.PUBLIC)) publicNames.add(t.getName().toString());
            return null;
        }
    }

    public static void main(String[] args) throws Exception {
        File source = new File(System.getProperty("project", "."), "src/main/java/WhoMustSwear.java");
        JavaCompiler compiler = ToolProvider.getSystemJavaCompiler();
        try (StandardJavaFileManager files = compiler.getStandardFileManager(null, null, null)) {
            JavacTask task = (JavacTask) compiler.getTask(null, files, null, null, null, files.getJavaFileObjects(source));
            unit = task.parse().iterator().next();
            positions = Trees.instance(task).getSourcePositions();
            if (unit.getPackageName() != null) broken(1, "a package line");
            due("classes beside one another", unit.getTypeDecls().size(), 1);
            new PublicNames().scan(unit, null);
            due("public methods and the constructor", publicNames.size(), 34);
            new Reader().scan(unit, null);
            task.analyze();
            new Reached(Trees.instance(task)).scan(unit, null);
        }
        if (classes > 12) broken(11, classes + " classes");
        for (String method : calls.keySet()) {
            boolean recursion = !method.equals("<init>") && comesBack(method, method, new HashSet<>());
            if (recursion && !privates.contains(method)) broken(8, method + " calls itself and is not private");
        }
        for (String method : publicNames) {
            int depth = deepest(method, new HashSet<>());
            if (depth > 8) broken(11, method + " goes " + depth + " calls deep");
        }
        end("LanguageTest");
    }
}
