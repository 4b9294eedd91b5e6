import com.sun.source.tree.ClassTree;
import com.sun.source.tree.CompilationUnitTree;
import com.sun.source.tree.ImportTree;
import com.sun.source.tree.LineMap;
import com.sun.source.tree.MethodTree;
import com.sun.source.tree.Tree;
import com.sun.source.tree.VariableTree;
import com.sun.source.util.JavacTask;
import com.sun.source.util.SourcePositions;
import com.sun.source.util.TreeScanner;
import com.sun.source.util.Trees;
import java.io.File;
import java.io.IOException;
import java.util.ArrayList;
import java.util.EnumSet;
import java.util.List;
import java.util.Set;
import java.util.TreeSet;
import javax.lang.model.element.Modifier;
import javax.tools.JavaCompiler;
import javax.tools.StandardJavaFileManager;
import javax.tools.ToolProvider;

/** The rules of LANGUAGE.md that can be seen in the text of the class alone. */
public final class LanguageTest {
    private static final Set<Tree.Kind> RULED_OUT = EnumSet.of(
        Tree.Kind.THROW, Tree.Kind.TRY, Tree.Kind.CATCH, Tree.Kind.SYNCHRONIZED, Tree.Kind.ASSERT,
        Tree.Kind.LAMBDA_EXPRESSION, Tree.Kind.MEMBER_REFERENCE);
    private static final Set<String> IMPORTS = Set.of(
        "java.util.Arrays", "java.util.ArrayList", "java.util.List", "java.util.Iterator");

    private static CompilationUnitTree unit;
    private static SourcePositions positions;

    public static void main(String[] args) throws IOException {
        JavaCompiler compiler = ToolProvider.getSystemJavaCompiler();
        try (StandardJavaFileManager files = compiler.getStandardFileManager(null, null, null)) {
            File file = new File("src/main/java/PaperedOver.java");
            JavacTask task = (JavacTask) compiler.getTask(null, files, null, null, null, files.getJavaFileObjects(file));
            positions = Trees.instance(task).getSourcePositions();
            unit = task.parse().iterator().next();
            look();
        }
        Due.end();
    }

    private static void look() {
        Due.is("no package line", unit.getPackage() == null ? 1 : 0, 1);
        for (ImportTree i : unit.getImports()) {
            Due.is("import " + i, IMPORTS.contains(i.getQualifiedIdentifier().toString()) ? 1 : 0, 1);
        }
        List<ClassTree> classes = new ArrayList<>();
        Set<String> publicNames = new TreeSet<>();
        List<MethodTree> others = new ArrayList<>();
        new TreeScanner<Void, Void>() {
            @Override public Void scan(Tree t, Void v) {
                if (t != null) Due.is(t.getKind() + " at line " + line(t), RULED_OUT.contains(t.getKind()) ? 1 : 0, 0);
                return super.scan(t, v);
            }

            @Override public Void visitClass(ClassTree c, Void v) {
                classes.add(c);
                return super.visitClass(c, v);
            }

            @Override public Void visitMethod(MethodTree m, Void v) {
                method(m);
                if (m.getModifiers().getFlags().contains(Modifier.PUBLIC)) publicNames.add(m.getName().toString());
                else others.add(m);
                return super.visitMethod(m, v);
            }
        }.scan(unit, null);
        Due.is("at most twelve classes: " + classes.size(), classes.size() <= 12 ? 1 : 0, 1);
        for (ClassTree c : classes) oneClass(c);
        for (MethodTree m : others) {
            boolean maker = m.getName().contentEquals("<init>");
            Due.is(m.getName() + " bears a public name", !maker && publicNames.contains(m.getName().toString()) ? 1 : 0, 0);
        }
    }

    private static void method(MethodTree m) {
        LineMap lines = unit.getLineMap();
        long first = lines.getLineNumber(positions.getStartPosition(unit, m));
        long last = lines.getLineNumber(positions.getEndPosition(unit, m));
        Due.is(m.getName() + " is short", last - first < 60 ? 1 : 0, 1);
        Due.is(m.getName() + " takes at most seven", m.getParameters().size() <= 7 ? 1 : 0, 1);
    }

    private static void oneClass(ClassTree c) {
        Set<Modifier> flags = c.getModifiers().getFlags();
        boolean face = c.getSimpleName().contentEquals("PaperedOver");
        Due.is(c.getSimpleName() + " is static", face || flags.contains(Modifier.STATIC) ? 1 : 0, 1);
        Due.is(c.getSimpleName() + " is not open", !face && flags.contains(Modifier.PUBLIC) ? 1 : 0, 0);
        int fields = 0;
        for (Tree member : c.getMembers()) {
            if (!(member instanceof VariableTree)) continue;
            Set<Modifier> of = ((VariableTree) member).getModifiers().getFlags();
            if (!of.contains(Modifier.STATIC)) fields++;
            else Due.is(member + " is final", of.contains(Modifier.FINAL) ? 1 : 0, 1);
        }
        Due.is(c.getSimpleName() + " has at most twenty fields: " + fields, fields <= 20 ? 1 : 0, 1);
    }

    private static long line(Tree t) {
        return unit.getLineMap().getLineNumber(Math.max(0, positions.getStartPosition(unit, t)));
    }
}
