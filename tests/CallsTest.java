import com.sun.source.tree.CompilationUnitTree;
import com.sun.source.tree.ExpressionTree;
import com.sun.source.tree.MethodInvocationTree;
import com.sun.source.tree.MethodTree;
import com.sun.source.tree.NewClassTree;
import com.sun.source.tree.VariableTree;
import com.sun.source.util.JavacTask;
import com.sun.source.util.TreePathScanner;
import com.sun.source.util.Trees;
import java.io.IOException;
import java.nio.file.Path;
import java.util.ArrayList;
import java.util.HashMap;
import java.util.LinkedHashSet;
import java.util.List;
import java.util.Map;
import java.util.Set;
import javax.lang.model.element.Element;
import javax.lang.model.element.ElementKind;
import javax.lang.model.element.Modifier;
import javax.tools.JavaCompiler;
import javax.tools.StandardJavaFileManager;
import javax.tools.ToolProvider;

/**
 * Which function of the class calls which, as the compiler sees it: LANGUAGE.md's rule 11 (calls that are no
 * recursion go at most eight deep; a function that calls itself is asked about no further) and rule 12 (a
 * constructor hands out nothing of its object). Run from the project's folder.
 */
public final class CallsTest {
    /** Eight calls behind the one that is open first: the most that "eight deep" can mean. */
    private static final int DEEPEST = 9;
    private static final Map<Element, Set<Element>> CALLS = new HashMap<>();

    public static void main(String[] args) throws IOException {
        Due.promise("rule 12: a constructor hands out nothing of its object");
        read(Path.of("src/main/java/InnTurned.java"));
        Due.promise("rule 11: calls");
        int deepest = 0;
        for (Element function : List.copyOf(CALLS.keySet())) {
            int depth = depth(function, new ArrayList<>());
            Due.holds(function + " goes " + depth + " deep", depth <= DEEPEST);
            deepest = Math.max(deepest, depth);
        }
        Due.holds("the face's calls were found", CALLS.size() > 37 && deepest > 1);
        Due.end();
    }

    private static void read(Path source) throws IOException {
        JavaCompiler compiler = ToolProvider.getSystemJavaCompiler();
        try (StandardJavaFileManager files = compiler.getStandardFileManager(null, null, null)) {
            List<String> options = List.of("-proc:none");
            JavacTask task = (JavacTask) compiler.getTask(null, files, null, options, null, files.getJavaFileObjects(source));
            Iterable<? extends CompilationUnitTree> units = task.parse();
            task.analyze();
            for (CompilationUnitTree unit : units) new Finder(Trees.instance(task)).scan(unit, null);
        }
    }

    /** A function that calls no other of the class is 1 deep. */
    private static int depth(Element function, List<Element> open) {
        if (open.contains(function)) return 0;
        open.add(function);
        int deepest = 0;
        for (Element called : CALLS.getOrDefault(function, Set.of())) deepest = Math.max(deepest, depth(called, open));
        open.remove(open.size() - 1);
        return deepest + 1;
    }

    /** Walks over the source; what a field begins with is made by the constructor, so it counts as its own. */
    private static final class Finder extends TreePathScanner<Void, Void> {
        private final Trees trees;
        private Element open;

        Finder(Trees trees) {
            this.trees = trees;
        }

        @Override
        public Void visitMethod(MethodTree tree, Void none) {
            open = trees.getElement(getCurrentPath());
            CALLS.computeIfAbsent(open, key -> new LinkedHashSet<>());
            super.visitMethod(tree, none);
            open = null;
            return null;
        }

        @Override
        public Void visitVariable(VariableTree tree, Void none) {
            Element variable = trees.getElement(getCurrentPath());
            boolean field = variable.getKind() == ElementKind.FIELD && !variable.getModifiers().contains(Modifier.STATIC);
            if (field) open = constructorOf(variable.getEnclosingElement());
            super.visitVariable(tree, none);
            if (field) open = null;
            return null;
        }

        @Override
        public Void visitMethodInvocation(MethodInvocationTree tree, Void none) {
            note(tree.getArguments());
            return super.visitMethodInvocation(tree, none);
        }

        @Override
        public Void visitNewClass(NewClassTree tree, Void none) {
            note(tree.getArguments());
            return super.visitNewClass(tree, none);
        }

        private static Element constructorOf(Element type) {
            for (Element member : type.getEnclosedElements()) {
                if (member.getKind() == ElementKind.CONSTRUCTOR) return member;
            }
            return null;
        }

        private void note(List<? extends ExpressionTree> given) {
            Element called = trees.getElement(getCurrentPath());
            if (open == null || called == null || !isOwn(called)) return;
            CALLS.computeIfAbsent(open, key -> new LinkedHashSet<>()).add(called);
            boolean inside = open.getEnclosingElement().equals(called.getEnclosingElement());
            if (open.getKind() != ElementKind.CONSTRUCTOR || inside) return;
            for (ExpressionTree argument : given) Due.holds("the object itself is handed out", !argument.toString().equals("this"));
        }

        private static boolean isOwn(Element called) {
            return called.getEnclosingElement().toString().startsWith("InnTurned");
        }
    }
}
