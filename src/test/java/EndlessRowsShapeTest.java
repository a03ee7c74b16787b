import com.sun.source.tree.BinaryTree;
import com.sun.source.tree.ClassTree;
import com.sun.source.tree.CompilationUnitTree;
import com.sun.source.tree.CompoundAssignmentTree;
import com.sun.source.tree.InstanceOfTree;
import com.sun.source.tree.LambdaExpressionTree;
import com.sun.source.tree.MemberReferenceTree;
import com.sun.source.tree.MethodInvocationTree;
import com.sun.source.tree.MethodTree;
import com.sun.source.tree.NewArrayTree;
import com.sun.source.tree.NewClassTree;
import com.sun.source.tree.Tree;
import com.sun.source.tree.TypeCastTree;
import com.sun.source.tree.VariableTree;
import com.sun.source.util.JavacTask;
import com.sun.source.util.TreePathScanner;
import com.sun.source.util.Trees;
import java.io.IOException;
import java.nio.file.Path;
import java.util.ArrayDeque;
import java.util.ArrayList;
import java.util.Deque;
import java.util.HashMap;
import java.util.List;
import java.util.Map;
import java.util.Set;
import java.util.TreeMap;
import java.util.TreeSet;
import javax.lang.model.element.Element;
import javax.lang.model.element.ElementKind;
import javax.lang.model.element.Modifier;
import javax.lang.model.element.NestingKind;
import javax.lang.model.element.TypeElement;
import javax.lang.model.type.TypeMirror;
import javax.tools.JavaCompiler;
import javax.tools.StandardJavaFileManager;
import javax.tools.ToolProvider;

/** The rules of LANGUAGE.md that only a compiler can look at: types, what is called, and how deep calls go. */
public final class EndlessRowsShapeTest {
    private static final Path SOURCE = Path.of("src/main/java/EndlessRows.java");
    private static final int DEEPEST = 8;
    private static final Set<String> NUMBERS = Set.of("int", "long", "short", "byte", "char", "boolean");
    private static final Set<String> LIBRARY = Set.of("java.util.Arrays.fill", "java.lang.Math.min", "java.lang.Math.max",
        "java.lang.Math.floorMod", "java.lang.Integer.bitCount", "java.lang.System.arraycopy", "java.lang.String.length",
        "java.lang.String.charAt");
    // All that may call itself: a text's formulas, one within the other.
    private static final Set<String> RECURSIVE = Set.of("EndlessRows.Reader.formula", "EndlessRows.Reader.piece",
        "EndlessRows.Reader.contrary", "EndlessRows.Reader.bind", "EndlessRows.Reader.enclosed");

    private static final Map<String, Set<String>> calls = new TreeMap<>();
    private static int wrong = 0;

    public static void main(String[] args) throws IOException {
        JavaCompiler compiler = ToolProvider.getSystemJavaCompiler();
        StandardJavaFileManager files = compiler.getStandardFileManager(null, null, null);
        JavacTask task = (JavacTask) compiler.getTask(null, files, null, List.of("-proc:none"), null,
            files.getJavaFileObjects(SOURCE));
        Iterable<? extends CompilationUnitTree> units = task.parse();
        task.analyze();
        int found = 0;
        for (CompilationUnitTree unit : units) {
            new Look(Trees.instance(task)).scan(unit, "");
            found++;
        }
        tell(found == 1 && calls.size() > 100, "one file with all methods was looked at");
        depth();
        System.out.println("shape: " + wrong + " broken; methods " + calls.size());
        System.exit(wrong > 0 ? 1 : 0);
    }

    private static void tell(boolean holds, String what) {
        if (!holds) {
            wrong++;
            System.out.println("not so: " + what);
        }
    }

    /** Looks at each place of the program; what is carried along is the method that it stands in. */
    private static final class Look extends TreePathScanner<Void, String> {
        private final Trees trees;

        Look(Trees trees) {
            this.trees = trees;
        }

        private Element here() {
            return trees.getElement(getCurrentPath());
        }

        private static String name(Element method) {
            return method.getEnclosingElement() + "." + method.getSimpleName();
        }

        private String type(Tree tree) {
            TypeMirror type = trees.getTypeMirror(trees.getPath(getCurrentPath().getCompilationUnit(), tree));
            return type == null ? "none" : type.toString();
        }

        @Override
        public Void visitClass(ClassTree tree, String method) {
            TypeElement type = (TypeElement) here();
            boolean inside = type.getNestingKind() == NestingKind.MEMBER && type.getModifiers().contains(Modifier.STATIC);
            tell(type.getNestingKind() == NestingKind.TOP_LEVEL || inside, type + " is a static class inside");
            tell(type.getKind() == ElementKind.CLASS, type + " is a class");
            return super.visitClass(tree, method);
        }

        @Override
        public Void visitMethod(MethodTree tree, String method) {
            String name = name(here());
            calls.putIfAbsent(name, new TreeSet<>());
            return super.visitMethod(tree, name);
        }

        @Override
        public Void visitMethodInvocation(MethodInvocationTree tree, String method) {
            Element called = here();
            String name = name(called);
            boolean parent = called.getSimpleName().contentEquals("<init>");
            tell(name.startsWith("EndlessRows") || parent || LIBRARY.contains(name), method + " calls " + name);
            if (!parent) {
                calls.computeIfAbsent(method, key -> new TreeSet<>()).add(name);
            }
            return super.visitMethodInvocation(tree, method);
        }

        @Override
        public Void visitNewClass(NewClassTree tree, String method) {
            tell(type(tree).startsWith("EndlessRows."), "a new " + type(tree));
            making(method, type(tree));
            return super.visitNewClass(tree, method);
        }

        @Override
        public Void visitNewArray(NewArrayTree tree, String method) {
            making(method, type(tree));
            return super.visitNewArray(tree, method);
        }

        // What is made is made by constructors and for fields alone.
        private void making(String method, String what) {
            tell(method.isEmpty() || method.endsWith(".<init>"), method + " makes a " + what);
        }

        @Override
        public Void visitVariable(VariableTree tree, String method) {
            Element variable = here();
            String type = variable.asType().toString();
            String bare = type.replaceFirst("(\\[\\])+$", "");
            int dimensions = (type.length() - bare.length()) / 2;
            boolean number = NUMBERS.contains(bare);
            boolean own = bare.startsWith("EndlessRows.");
            boolean text = bare.equals("java.lang.String");
            tell(number && dimensions < 3 || own && dimensions < 2 || text && dimensions == 0, type + " " + variable);
            if (variable.getKind() == ElementKind.FIELD && variable.getModifiers().contains(Modifier.STATIC)) {
                tell(variable.getModifiers().contains(Modifier.FINAL), variable + " is final");
                tell(number && dimensions < 2 || text, "a static " + type + " " + variable);
                tell(variable.getSimpleName().toString().matches("[A-Z_]+"), "a constant " + variable);
            }
            return super.visitVariable(tree, method);
        }

        @Override
        public Void visitBinary(BinaryTree tree, String method) {
            String left = type(tree.getLeftOperand());
            String right = type(tree.getRightOperand());
            boolean text = (left + right).contains("java.lang");
            tell(!text, method + " has a text at " + tree.getKind());
            return super.visitBinary(tree, method);
        }

        @Override
        public Void visitCompoundAssignment(CompoundAssignmentTree tree, String method) {
            tell(NUMBERS.contains(type(tree.getVariable())), method + " has " + tree);
            return super.visitCompoundAssignment(tree, method);
        }

        @Override
        public Void visitTypeCast(TypeCastTree tree, String method) {
            tell(NUMBERS.contains(type(tree)), method + " casts to " + type(tree));
            return super.visitTypeCast(tree, method);
        }

        @Override
        public Void visitInstanceOf(InstanceOfTree tree, String method) {
            tell(false, method + " asks for a class");
            return super.visitInstanceOf(tree, method);
        }

        @Override
        public Void visitLambdaExpression(LambdaExpressionTree tree, String method) {
            tell(false, method + " has a lambda");
            return super.visitLambdaExpression(tree, method);
        }

        @Override
        public Void visitMemberReference(MemberReferenceTree tree, String method) {
            tell(false, method + " has a method reference");
            return super.visitMemberReference(tree, method);
        }
    }

    // ---------------------------------------------------------------- how deep calls go

    private static Set<String> reached(String from) {
        Set<String> reached = new TreeSet<>();
        Deque<String> todo = new ArrayDeque<>(calls.getOrDefault(from, Set.of()));
        while (!todo.isEmpty()) {
            String next = todo.poll();
            if (reached.add(next)) {
                todo.addAll(calls.getOrDefault(next, Set.of()));
            }
        }
        return reached;
    }

    /** Chains of calls, what is recursion counted once, and the library's calls too. */
    private static void depth() {
        Set<String> recursive = new TreeSet<>();
        for (String method : calls.keySet()) {
            if (reached(method).contains(method)) {
                recursive.add(method);
            }
        }
        tell(recursive.equals(new TreeSet<>(RECURSIVE)), "what calls itself is " + recursive);
        Map<String, List<String>> known = new HashMap<>();
        for (String method : new ArrayList<>(calls.keySet())) {
            List<String> chain = longest(method, recursive, known);
            tell(chain.size() <= DEEPEST, "calls go deep: " + chain);
        }
    }

    private static List<String> longest(String method, Set<String> recursive, Map<String, List<String>> known) {
        boolean one = recursive.contains(method);
        String key = one ? "recursion" : method;
        if (known.containsKey(key)) {
            return known.get(key);
        }
        List<String> longest = List.of();
        for (String from : one ? recursive : Set.of(method)) {
            for (String next : calls.getOrDefault(from, Set.of())) {
                if (!one || !recursive.contains(next)) {
                    List<String> chain = longest(next, recursive, known);
                    longest = chain.size() > longest.size() ? chain : longest;
                }
            }
        }
        List<String> chain = new ArrayList<>(List.of(key));
        chain.addAll(longest);
        known.put(key, chain);
        return chain;
    }
}
