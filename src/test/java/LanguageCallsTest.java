import com.sun.source.tree.BinaryTree;
import com.sun.source.tree.CompilationUnitTree;
import com.sun.source.tree.MethodInvocationTree;
import com.sun.source.tree.MethodTree;
import com.sun.source.tree.NewClassTree;
import com.sun.source.tree.Tree;
import com.sun.source.util.JavacTask;
import com.sun.source.util.TreePath;
import com.sun.source.util.TreePathScanner;
import com.sun.source.util.Trees;
import java.io.File;
import java.io.IOException;
import java.util.Map;
import java.util.Set;
import java.util.TreeMap;
import java.util.TreeSet;
import javax.lang.model.element.Element;
import javax.lang.model.element.ExecutableElement;
import javax.lang.model.element.Modifier;
import javax.tools.JavaCompiler;
import javax.tools.StandardJavaFileManager;
import javax.tools.ToolProvider;

/** The rules of LANGUAGE.md about who calls whom: 4 the library, 8 recursion, 10 texts, 11 how deep calls go, 12 what is made. */
public final class LanguageCallsTest {
    private static final int DEEPEST = 8;
    private static final Set<String> LIBRARY = Set.of(
        "String.length", "String.charAt", "Math.max", "Math.min", "Math.abs", "Arrays.fill", "System.arraycopy");

    private static final Map<String, Set<String>> CALLED = new TreeMap<>();
    private static final Set<String> PRIVATE = new TreeSet<>();
    private static final Set<String> WITH_DEPTH = new TreeSet<>();
    private static Trees trees;

    public static void main(String[] args) throws IOException {
        JavaCompiler compiler = ToolProvider.getSystemJavaCompiler();
        try (StandardJavaFileManager files = compiler.getStandardFileManager(null, null, null)) {
            File file = new File("src/main/java/PaperedOver.java");
            JavacTask task = (JavacTask) compiler.getTask(null, files, null, null, null, files.getJavaFileObjects(file));
            trees = Trees.instance(task);
            CompilationUnitTree unit = task.parse().iterator().next();
            task.analyze();
            new Scanner().scan(unit, null);
        }
        Due.is("there are methods", CALLED.size() > 30 ? 1 : 0, 1);
        for (String method : CALLED.keySet()) {
            int deep = deep(method, new TreeSet<>());
            Due.is(method + " goes " + deep + " deep", deep <= DEEPEST ? 1 : 0, 1);
            if (CALLED.get(method).contains(method)) {
                Due.is(method + " calls itself and is private", PRIVATE.contains(method) ? 1 : 0, 1);
                Due.is(method + " calls itself and carries its depth", WITH_DEPTH.contains(method) ? 1 : 0, 1);
            }
        }
        Due.end();
    }

    /** How many calls stand open at once at most, a method that calls itself counted once; others must not come back. */
    private static int deep(String method, Set<String> open) {
        if (!CALLED.containsKey(method)) return 0;
        Due.is(method + " comes back to itself by way of " + open, open.contains(method) ? 1 : 0, 0);
        if (!open.add(method)) return 0;
        int most = 0;
        for (String called : CALLED.get(method)) {
            if (!called.equals(method)) most = Math.max(most, deep(called, open));
        }
        open.remove(method);
        return most + 1;
    }

    private static final class Scanner extends TreePathScanner<Void, Void> {
        private String inside = "";
        private boolean maker;

        @Override public Void visitMethod(MethodTree m, Void v) {
            Element method = trees.getElement(getCurrentPath());
            inside = name(method);
            maker = m.getName().contentEquals("<init>");
            CALLED.put(inside, new TreeSet<>());
            if (method.getModifiers().contains(Modifier.PRIVATE)) PRIVATE.add(inside);
            if (m.getParameters().stream().anyMatch(p -> p.getName().contentEquals("depth"))) WITH_DEPTH.add(inside);
            return super.visitMethod(m, v);
        }

        @Override public Void visitMethodInvocation(MethodInvocationTree call, Void v) {
            Element called = trees.getElement(new TreePath(getCurrentPath(), call.getMethodSelect()));
            String owner = called.getEnclosingElement().toString();
            boolean own = owner.startsWith("PaperedOver") || called.getSimpleName().contentEquals("<init>");
            String plain = owner.substring(owner.lastIndexOf('.') + 1) + "." + called.getSimpleName();
            Due.is(plain + " is of the library that the class may use", own || LIBRARY.contains(plain) ? 1 : 0, 1);
            CALLED.get(inside).add(name(called));
            return super.visitMethodInvocation(call, v);
        }

        /** All that an object needs is made with it, so that no run of calls can make too much. */
        @Override public Void visitNewClass(NewClassTree made, Void v) {
            Due.is(made + " is made by a constructor", maker || isField() ? 1 : 0, 1);
            return super.visitNewClass(made, v);
        }

        private boolean isField() {
            TreePath above = getCurrentPath().getParentPath();
            return above.getLeaf().getKind() == Tree.Kind.VARIABLE
                && above.getParentPath().getLeaf().getKind() == Tree.Kind.CLASS;
        }

        @Override public Void visitBinary(BinaryTree sum, Void v) {
            boolean text = trees.getTypeMirror(getCurrentPath()).toString().equals("java.lang.String");
            Due.is(sum + " joins texts", text ? 1 : 0, 0);
            return super.visitBinary(sum, v);
        }

        private static String name(Element method) {
            ExecutableElement e = (ExecutableElement) method;
            return e.getEnclosingElement() + "." + e;
        }
    }
}
