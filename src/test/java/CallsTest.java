import com.sun.source.tree.ClassTree;
import com.sun.source.tree.CompilationUnitTree;
import com.sun.source.tree.MethodInvocationTree;
import com.sun.source.tree.MethodTree;
import com.sun.source.tree.NewClassTree;
import com.sun.source.util.JavacTask;
import com.sun.source.util.TreePathScanner;
import com.sun.source.util.Trees;
import java.nio.file.Path;
import java.util.ArrayList;
import java.util.Arrays;
import java.util.HashSet;
import java.util.List;
import java.util.Map;
import java.util.Set;
import java.util.TreeMap;
import java.util.TreeSet;
import javax.lang.model.element.Element;
import javax.lang.model.element.TypeElement;
import javax.tools.JavaCompiler;
import javax.tools.StandardJavaFileManager;
import javax.tools.ToolProvider;

/** Who calls whom in the class: rules 4, 8 and 11 of LANGUAGE.md, as the compiler sees them. */
public final class CallsTest {
    private static final int DEEPEST = 8;
    private static final Set<String> LIBRARY = new HashSet<>(Arrays.asList("java.lang.Math.max(int,int)",
        "java.lang.Math.min(int,int)", "java.lang.Math.abs(int)", "java.util.Arrays.fill(int[],int)",
        "java.lang.System.arraycopy(java.lang.Object,int,java.lang.Object,int,int)", "java.lang.String.length()",
        "java.lang.String.charAt(int)", "java.lang.String.indexOf(int)", "java.lang.Object.Object()"));

    public static void main(String[] args) throws Exception {
        Calls calls = callsOf("src/main/java/WolfFires.java");
        Due.holds("calls were found", calls.of.size() > 100 && calls.of.containsKey("WolfFires.signs(int,int,int)"));
        for (String name : calls.library) {
            Due.holds(name + " is in the library that may be used", LIBRARY.contains(name));
        }
        for (String name : calls.of.keySet()) {
            List<String> deepest = deepest(name, calls, new ArrayList<>());
            Due.holds("at most eight calls are open: " + deepest, deepest.size() <= DEEPEST);
        }
        Due.ends("CallsTest");
    }

    private static Calls callsOf(String file) throws Exception {
        JavaCompiler compiler = ToolProvider.getSystemJavaCompiler();
        try (StandardJavaFileManager files = compiler.getStandardFileManager(null, null, null)) {
            JavacTask task = (JavacTask) compiler.getTask(null, files, null, List.of("-proc:none"), null,
                files.getJavaFileObjects(Path.of(file)));
            Iterable<? extends CompilationUnitTree> units = task.parse();
            task.analyze();
            Calls calls = new Calls(Trees.instance(task));
            calls.scan(units, null);
            return calls;
        }
    }

    /** The longest row of calls that stand open at once, this one first; one that comes again is a recursion. */
    private static List<String> deepest(String name, Calls calls, List<String> above) {
        List<String> row = new ArrayList<>(List.of(name));
        if (above.contains(name)) {
            Due.holds("no recursion: " + above + " calls " + name, false);
            return row;
        }
        above.add(name);
        List<String> longest = List.of();
        for (String called : calls.of.getOrDefault(name, Set.of())) {
            List<String> under = deepest(called, calls, above);
            longest = under.size() > longest.size() ? under : longest;
        }
        above.remove(above.size() - 1);
        row.addAll(longest);
        return row;
    }

    private static final class Calls extends TreePathScanner<Void, Void> {
        final Map<String, Set<String>> of = new TreeMap<>();
        final Set<String> library = new TreeSet<>();
        private final Trees trees;
        private String method = "";
        private String type = "";

        Calls(Trees trees) {
            this.trees = trees;
        }

        @Override
        public Void visitClass(ClassTree tree, Void none) {
            String outer = type;
            type = trees.getElement(getCurrentPath()).toString();
            // What stands in no method is a field's first value: the constructor works it out.
            String outerMethod = method;
            method = "values of " + type;
            super.visitClass(tree, none);
            type = outer;
            method = outerMethod;
            return null;
        }

        @Override
        public Void visitMethod(MethodTree tree, Void none) {
            String outer = method;
            method = nameOf(trees.getElement(getCurrentPath()));
            of.computeIfAbsent(method, name -> new TreeSet<>());
            if (tree.getReturnType() == null) {
                of.get(method).add("values of " + type);
            }
            super.visitMethod(tree, none);
            method = outer;
            return null;
        }

        @Override
        public Void visitMethodInvocation(MethodInvocationTree tree, Void none) {
            adds(trees.getElement(getCurrentPath()));
            return super.visitMethodInvocation(tree, none);
        }

        @Override
        public Void visitNewClass(NewClassTree tree, Void none) {
            adds(trees.getElement(getCurrentPath()));
            return super.visitNewClass(tree, none);
        }

        private void adds(Element called) {
            String name = nameOf(called);
            if (name.startsWith("WolfFires")) {
                of.computeIfAbsent(method, caller -> new TreeSet<>()).add(name);
            } else {
                library.add(name);
            }
        }

        private static String nameOf(Element method) {
            TypeElement owner = (TypeElement) method.getEnclosingElement();
            return owner.getQualifiedName() + "." + method;
        }
    }
}
