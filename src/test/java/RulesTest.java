import com.sun.source.tree.CompilationUnitTree;
import com.sun.source.tree.MethodInvocationTree;
import com.sun.source.tree.MethodTree;
import com.sun.source.tree.NewArrayTree;
import com.sun.source.tree.NewClassTree;
import com.sun.source.tree.ThrowTree;
import com.sun.source.tree.Tree;
import com.sun.source.tree.TypeCastTree;
import com.sun.source.util.JavacTask;
import com.sun.source.util.TreePathScanner;
import com.sun.source.util.Trees;
import java.nio.file.Path;
import java.util.ArrayList;
import java.util.EnumSet;
import java.util.List;
import java.util.Map;
import java.util.Set;
import java.util.TreeMap;
import java.util.TreeSet;
import javax.lang.model.element.Element;
import javax.lang.model.element.ElementKind;
import javax.lang.model.element.ExecutableElement;
import javax.lang.model.element.Modifier;
import javax.tools.JavaCompiler;
import javax.tools.StandardJavaFileManager;
import javax.tools.ToolProvider;

/** Those rules of LANGUAGE.md that are seen in the program's tree: what it calls, how deep, what it makes. */
public final class RulesTest {
    /** Of the library that rule 4 lists: what the program uses of it. */
    private static final Set<String> LIBRARY = Set.of("Integer.bitCount(int)", "Long.compare(long,long)", "Math.max(int,int)",
        "Math.max(long,long)", "String.length()", "String.charAt(int)",
        "System.arraycopy(java.lang.Object,int,java.lang.Object,int,int)");
    /** Trees that the rules forbid, or that this program does without. */
    private static final Set<Tree.Kind> FORBIDDEN = EnumSet.of(Tree.Kind.LAMBDA_EXPRESSION, Tree.Kind.MEMBER_REFERENCE, Tree.Kind.TRY,
        Tree.Kind.CATCH, Tree.Kind.SYNCHRONIZED, Tree.Kind.ASSERT, Tree.Kind.INSTANCE_OF, Tree.Kind.DOUBLE_LITERAL,
        Tree.Kind.FLOAT_LITERAL, Tree.Kind.LABELED_STATEMENT, Tree.Kind.DO_WHILE_LOOP, Tree.Kind.SWITCH_EXPRESSION);
    private static final int DEEPEST = 8;

    private final Map<String, Set<String>> calls = new TreeMap<>();
    private final List<String> face = new ArrayList<>();

    public static void main(String[] args) throws Exception {
        new RulesTest().look();
        Check.finish();
    }

    private void look() throws Exception {
        JavaCompiler compiler = ToolProvider.getSystemJavaCompiler();
        try (StandardJavaFileManager files = compiler.getStandardFileManager(null, null, null)) {
            JavacTask task = (JavacTask) compiler.getTask(null, files, null, List.of("-proc:none", "-XDrawDiagnostics"), null,
                files.getJavaFileObjects(Path.of("src/main/java/LiabilityMatcher.java")));
            Iterable<? extends CompilationUnitTree> units = task.parse();
            task.analyze();
            Trees trees = Trees.instance(task);
            for (CompilationUnitTree unit : units) {
                new Looker(trees).scan(unit, null);
            }
        }
        Check.due("methods of the face that were seen", face.size(), 30);
        for (String method : face) {
            int deep = depth(method, new ArrayList<>());
            Check.due("calls of " + method + " go eight deep at most (" + deep + ")", deep <= DEEPEST, true);
        }
        Check.due("methods that come back to themselves " + recursive(), recursive().equals(Set.of("LotCover.search(int)")), true);
    }

    /** How many methods stand open at once at most, a method that calls itself counted once. */
    private int depth(String method, List<String> open) {
        int deepest = 0;
        open.add(method);
        for (String called : calls.getOrDefault(method, Set.of())) {
            if (!open.contains(called)) {
                deepest = Math.max(deepest, depth(called, open));
            }
        }
        open.remove(method);
        return deepest + 1;
    }

    private Set<String> recursive() {
        Set<String> found = new TreeSet<>();
        for (String method : calls.keySet()) {
            Set<String> reached = new TreeSet<>();
            List<String> next = new ArrayList<>(calls.get(method));
            while (!next.isEmpty()) {
                String called = next.remove(next.size() - 1);
                if (reached.add(called)) {
                    next.addAll(calls.getOrDefault(called, Set.of()));
                }
            }
            if (reached.contains(method)) {
                found.add(method);
            }
        }
        return found;
    }

    private final class Looker extends TreePathScanner<Void, Void> {
        private final Trees trees;
        private ExecutableElement inside;

        Looker(Trees trees) {
            this.trees = trees;
        }

        @Override
        public Void scan(Tree tree, Void none) {
            if (tree != null) {
                Check.due("a tree that may not be: " + tree.getKind(), FORBIDDEN.contains(tree.getKind()), false);
            }
            return super.scan(tree, none);
        }

        @Override
        public Void visitMethod(MethodTree tree, Void none) {
            ExecutableElement outside = inside;
            inside = (ExecutableElement) trees.getElement(getCurrentPath());
            calls.putIfAbsent(nameOf(inside), new TreeSet<>());
            if (inside.getModifiers().contains(Modifier.PUBLIC)) {
                face.add(nameOf(inside));
            }
            super.visitMethod(tree, none);
            inside = outside;
            return null;
        }

        @Override
        public Void visitMethodInvocation(MethodInvocationTree tree, Void none) {
            Element called = trees.getElement(getCurrentPath());
            if (called.getKind() == ElementKind.METHOD && inside != null) {
                String name = nameOf((ExecutableElement) called);
                if (isOurs(called)) {
                    calls.get(nameOf(inside)).add(name);
                } else {
                    Check.due("the library's " + name + " in " + nameOf(inside), LIBRARY.contains(name), true);
                }
            }
            return super.visitMethodInvocation(tree, none);
        }

        @Override
        public Void visitNewClass(NewClassTree tree, Void none) {
            String name = tree.getIdentifier().toString();
            // Objects are made with the object itself; a method makes an exception alone.
            Check.due("new " + name + " in a method", inside == null || name.equals("NoSuchElementException"), true);
            return super.visitNewClass(tree, none);
        }

        @Override
        public Void visitNewArray(NewArrayTree tree, Void none) {
            Check.due("an array made in " + inside, inside == null, true);
            return super.visitNewArray(tree, none);
        }

        @Override
        public Void visitThrow(ThrowTree tree, Void none) {
            Check.due("a throw in " + inside, inside != null && nameOf(inside).equals("LiabilityMatcher.told(int,int)"), true);
            return super.visitThrow(tree, none);
        }

        @Override
        public Void visitTypeCast(TypeCastTree tree, Void none) {
            Check.due("a cast to " + tree.getType(), tree.getType().getKind() == Tree.Kind.PRIMITIVE_TYPE, true);
            return super.visitTypeCast(tree, none);
        }

        private boolean isOurs(Element e) {
            Element outer = e;
            while (outer.getEnclosingElement() != null && outer.getEnclosingElement().getKind() != ElementKind.PACKAGE) {
                outer = outer.getEnclosingElement();
            }
            return outer.getSimpleName().contentEquals("LiabilityMatcher");
        }

        private String nameOf(ExecutableElement e) {
            return e.getEnclosingElement().getSimpleName() + "." + e;
        }
    }
}
