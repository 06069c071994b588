import com.sun.source.tree.AssertTree;
import com.sun.source.tree.BlockTree;
import com.sun.source.tree.ClassTree;
import com.sun.source.tree.CompilationUnitTree;
import com.sun.source.tree.DoWhileLoopTree;
import com.sun.source.tree.ForLoopTree;
import com.sun.source.tree.ImportTree;
import com.sun.source.tree.LambdaExpressionTree;
import com.sun.source.tree.MemberReferenceTree;
import com.sun.source.tree.MethodInvocationTree;
import com.sun.source.tree.MethodTree;
import com.sun.source.tree.NewArrayTree;
import com.sun.source.tree.NewClassTree;
import com.sun.source.tree.SynchronizedTree;
import com.sun.source.tree.ThrowTree;
import com.sun.source.tree.Tree;
import com.sun.source.tree.TryTree;
import com.sun.source.tree.VariableTree;
import com.sun.source.tree.WhileLoopTree;
import com.sun.source.util.JavacTask;
import com.sun.source.util.SourcePositions;
import com.sun.source.util.TreeScanner;
import com.sun.source.util.Trees;
import java.nio.file.Path;
import java.util.ArrayDeque;
import java.util.Deque;
import java.util.HashMap;
import java.util.HashSet;
import java.util.List;
import java.util.Map;
import java.util.Set;
import java.util.TreeMap;
import java.util.TreeSet;
import javax.lang.model.element.Element;
import javax.lang.model.element.ExecutableElement;
import javax.lang.model.element.Modifier;
import javax.lang.model.element.TypeElement;
import javax.tools.JavaCompiler;
import javax.tools.StandardJavaFileManager;
import javax.tools.ToolProvider;

/** What of LANGUAGE.md can be seen in the source: which words, which library, how long, how deep. */
public final class LanguageTest {
    private static final Checks checks = new Checks("LanguageTest");
    /** The library as far as the class uses it; each of these stands in rule 4. */
    private static final Set<String> LIBRARY = Set.of("java.util.Arrays.fill", "java.lang.System.arraycopy",
        "java.lang.Math.max", "java.lang.Math.min", "java.lang.Integer.compare", "java.lang.Integer.bitCount",
        "java.lang.Long.bitCount", "java.lang.String.length", "java.lang.String.charAt", "java.lang.String.indexOf",
        "java.lang.Object.<init>", "java.util.NoSuchElementException.<init>");

    private static Trees trees;
    private static SourcePositions positions;
    private static CompilationUnitTree unit;
    private static final Map<String, Set<String>> calls = new TreeMap<>();
    private static final Set<String> library = new TreeSet<>();
    private static int classes;

    public static void main(String[] args) throws Exception {
        JavaCompiler compiler = ToolProvider.getSystemJavaCompiler();
        StandardJavaFileManager files = compiler.getStandardFileManager(null, null, null);
        JavacTask task = (JavacTask) compiler.getTask(null, files, null, null, null,
            files.getJavaFileObjects(Path.of("src/main/java/VillageShow.java")));
        unit = task.parse().iterator().next();
        task.analyze();
        trees = Trees.instance(task);
        positions = trees.getSourcePositions();
        for (ImportTree line : unit.getImports()) {
            String name = line.getQualifiedIdentifier().toString();
            checks.yes("import " + name, name.equals("java.util.Arrays") || name.equals("java.util.NoSuchElementException"));
        }
        new Scanner().scan(unit, null);
        checks.yes(classes + " classes", classes <= 12);
        library.removeAll(LIBRARY);
        checks.yes("library beyond rule 4: " + library, library.isEmpty());
        depths();
        checks.end();
    }

    private static long line(Tree tree) {
        return unit.getLineMap().getLineNumber(positions.getStartPosition(unit, tree));
    }

    private static String nameOf(Element element) {
        return ((TypeElement) element.getEnclosingElement()).getQualifiedName() + "." + element.getSimpleName();
    }

    private static final class Scanner extends TreeScanner<Void, Void> {
        private final Deque<String> inside = new ArrayDeque<>();
        private boolean inConstructor;

        private void refuse(String what, Tree tree) {
            checks.due("line " + line(tree) + ": " + what, 1, 0);
        }

        @Override
        public Void visitClass(ClassTree tree, Void p) {
            classes++;
            int fields = 0;
            for (Tree member : tree.getMembers()) {
                if (member instanceof VariableTree field) {
                    Set<Modifier> modifiers = field.getModifiers().getFlags();
                    boolean constant = modifiers.contains(Modifier.STATIC);
                    fields += constant ? 0 : 1;
                    checks.yes("line " + line(field) + ": a static field is final",
                        !constant || modifiers.contains(Modifier.FINAL));
                }
                if (member instanceof BlockTree) {
                    refuse("a block of initialisation", member);
                }
                if (member instanceof ClassTree nested) {
                    checks.yes(nested.getSimpleName() + " is static",
                        nested.getModifiers().getFlags().contains(Modifier.STATIC));
                }
            }
            checks.yes(tree.getSimpleName() + " has " + fields + " fields", fields <= 20);
            return super.visitClass(tree, p);
        }

        @Override
        public Void visitMethod(MethodTree tree, Void p) {
            Element element = trees.getElement(trees.getPath(unit, tree));
            String name = nameOf(element);
            calls.putIfAbsent(name, new TreeSet<>());
            long last = unit.getLineMap().getLineNumber(positions.getEndPosition(unit, tree));
            checks.yes(name + " has " + (last - line(tree) + 1) + " lines", last - line(tree) < 60);
            checks.yes(name + " has parameters", tree.getParameters().size() <= 7);
            inside.push(name);
            inConstructor = tree.getReturnType() == null;
            super.visitMethod(tree, p);
            inConstructor = false;
            inside.pop();
            return null;
        }

        private void noteCall(Element called) {
            if (!(called instanceof ExecutableElement)) {
                return;
            }
            String name = nameOf(called);
            if (!name.startsWith("VillageShow.")) {
                library.add(name);
            } else if (!inside.isEmpty()) {
                calls.get(inside.peek()).add(name);
            }
        }

        @Override
        public Void visitMethodInvocation(MethodInvocationTree tree, Void p) {
            noteCall(trees.getElement(trees.getPath(unit, tree)));
            return super.visitMethodInvocation(tree, p);
        }

        @Override
        public Void visitNewClass(NewClassTree tree, Void p) {
            noteCall(trees.getElement(trees.getPath(unit, tree)));
            return super.visitNewClass(tree, p);
        }

        @Override
        public Void visitThrow(ThrowTree tree, Void p) {
            checks.no("line " + line(tree) + ": a throw in a constructor", inConstructor);
            checks.yes("line " + line(tree) + ": what is thrown",
                tree.getExpression().toString().startsWith("new NoSuchElementException("));
            return super.visitThrow(tree, p);
        }

        @Override
        public Void visitForLoop(ForLoopTree tree, Void p) {
            if (tree.getCondition() == null || tree.getUpdate().isEmpty()) {
                refuse("a loop without an end that can be seen", tree);
            }
            return super.visitForLoop(tree, p);
        }

        @Override
        public Void visitWhileLoop(WhileLoopTree tree, Void p) {
            refuse("while: where is its counter?", tree);
            return super.visitWhileLoop(tree, p);
        }

        @Override
        public Void visitDoWhileLoop(DoWhileLoopTree tree, Void p) {
            refuse("do: where is its counter?", tree);
            return super.visitDoWhileLoop(tree, p);
        }

        @Override
        public Void visitLambdaExpression(LambdaExpressionTree tree, Void p) {
            refuse("a lambda", tree);
            return super.visitLambdaExpression(tree, p);
        }

        @Override
        public Void visitMemberReference(MemberReferenceTree tree, Void p) {
            refuse("a method reference", tree);
            return super.visitMemberReference(tree, p);
        }

        @Override
        public Void visitTry(TryTree tree, Void p) {
            refuse("try: nothing here has to be caught", tree);
            return super.visitTry(tree, p);
        }

        @Override
        public Void visitSynchronized(SynchronizedTree tree, Void p) {
            refuse("synchronized", tree);
            return super.visitSynchronized(tree, p);
        }

        @Override
        public Void visitAssert(AssertTree tree, Void p) {
            refuse("assert", tree);
            return super.visitAssert(tree, p);
        }

        @Override
        public Void visitNewArray(NewArrayTree tree, Void p) {
            checks.yes("line " + line(tree) + ": dimensions", tree.getDimensions().size() <= 2);
            return super.visitNewArray(tree, p);
        }
    }

    // ---- how deep calls go; those that call one another count as one

    private static final Map<String, Set<String>> reached = new HashMap<>();

    private static Set<String> reachedFrom(String name) {
        if (!reached.containsKey(name)) {
            Set<String> found = new HashSet<>();
            Deque<String> open = new ArrayDeque<>(List.of(name));
            while (!open.isEmpty()) {
                for (String called : calls.getOrDefault(open.pop(), Set.of())) {
                    if (found.add(called)) {
                        open.push(called);
                    }
                }
            }
            reached.put(name, found);
        }
        return reached.get(name);
    }

    private static boolean together(String a, String b) {
        return a.equals(b) || reachedFrom(a).contains(b) && reachedFrom(b).contains(a);
    }

    private static int depthOf(String name, Map<String, Integer> known) {
        if (known.containsKey(name)) {
            return known.get(name);
        }
        int deepest = 0;
        for (String mate : calls.keySet()) {
            if (together(name, mate)) {
                for (String called : calls.get(mate)) {
                    if (!together(name, called)) {
                        deepest = Math.max(deepest, depthOf(called, known));
                    }
                }
            }
        }
        known.put(name, deepest + 1);
        return deepest + 1;
    }

    private static void depths() {
        Map<String, Integer> known = new HashMap<>();
        int deepest = 0;
        for (String name : calls.keySet()) {
            int depth = depthOf(name, known);
            deepest = Math.max(deepest, depth);
            checks.yes(name + " goes " + depth + " deep", depth <= 8);
        }
        System.out.println("the deepest call goes " + deepest + " deep");
    }
}
