import com.sun.source.tree.CompilationUnitTree;
import com.sun.source.tree.MethodInvocationTree;
import com.sun.source.tree.MethodTree;
import com.sun.source.tree.NewArrayTree;
import com.sun.source.tree.NewClassTree;
import com.sun.source.tree.VariableTree;
import com.sun.source.util.JavacTask;
import com.sun.source.util.TreePathScanner;
import com.sun.source.util.Trees;
import java.io.IOException;
import java.nio.file.Path;
import java.util.HashMap;
import java.util.LinkedHashMap;
import java.util.LinkedHashSet;
import java.util.List;
import java.util.Map;
import java.util.Set;
import javax.lang.model.element.Element;
import javax.lang.model.element.ElementKind;
import javax.lang.model.element.Modifier;
import javax.tools.JavaCompiler;
import javax.tools.StandardJavaFileManager;
import javax.tools.ToolProvider;

/** The rules of LANGUAGE.md on calls, fields and the making of objects, as the compiler sees the program. */
public final class StructureTest {
    private static final Path PROGRAM = Path.of("src/main/java/InterlockingFrame.java");
    private static final int DEEPEST = 8;
    private static final int MOST_FIELDS = 20;
    private static final Set<String> LIBRARY = Set.of("java.lang.String.length", "java.lang.String.charAt",
            "java.lang.System.arraycopy", "java.util.Arrays.fill", "java.lang.Math.min", "java.lang.Math.max",
            "java.lang.Integer.bitCount");
    private static final Set<String> STATIC_TYPES = Set.of("int", "long", "boolean", "char", "java.lang.String",
            "int[]", "long[]", "char[]", "byte[]");

    public static void main(String[] args) throws IOException {
        Reader reader = readProgram();
        for (Element method : reader.calls.keySet()) {
            int depth = reader.depthFrom(method);
            Check.holds(method + " begins calls at most eight deep, here " + depth, depth <= DEEPEST);
        }
        reader.fields.forEach((owner, count) ->
                Check.holds(owner + " has few fields, here " + count, count <= MOST_FIELDS));
        Check.holds("the program was read", reader.calls.size() > 42 && reader.fields.size() > 1);
        Check.finish();
    }

    private static Reader readProgram() throws IOException {
        JavaCompiler compiler = ToolProvider.getSystemJavaCompiler();
        try (StandardJavaFileManager files = compiler.getStandardFileManager(null, null, null)) {
            JavacTask task = (JavacTask) compiler.getTask(null, files, null, List.of("-proc:none"), null,
                    files.getJavaFileObjects(PROGRAM));
            Iterable<? extends CompilationUnitTree> units = task.parse();
            task.analyze();
            Reader reader = new Reader(Trees.instance(task));
            reader.scan(units, null);
            return reader;
        }
    }

    private static final class Reader extends TreePathScanner<Void, Void> {
        /** For each method of the program the methods of the program that it calls. */
        final Map<Element, Set<Element>> calls = new LinkedHashMap<>();
        /** For each class the number of its fields beside its constants. */
        final Map<Element, Integer> fields = new LinkedHashMap<>();
        private final Map<Element, Integer> depths = new HashMap<>();
        private final Trees trees;
        /** The method that is being read; null in the initialiser of a field. */
        private Element method = null;

        Reader(Trees trees) {
            this.trees = trees;
        }

        private Element here() {
            return trees.getElement(getCurrentPath());
        }

        @Override
        public Void visitMethod(MethodTree tree, Void nothing) {
            method = here();
            calls.put(method, new LinkedHashSet<>());
            if (method.getKind() == ElementKind.CONSTRUCTOR) {
                Check.holds(method + " is handed nothing by the object that makes it", tree.getParameters().isEmpty());
            }
            super.visitMethod(tree, nothing);
            method = null;
            return null;
        }

        @Override
        public Void visitVariable(VariableTree tree, Void nothing) {
            Element variable = here();
            boolean isStatic = variable.getModifiers().contains(Modifier.STATIC);
            if (variable.getKind() == ElementKind.FIELD && isStatic) {
                Check.holds(variable + " is a constant", variable.getModifiers().contains(Modifier.FINAL)
                        && STATIC_TYPES.contains(variable.asType().toString()));
            } else if (variable.getKind() == ElementKind.FIELD) {
                fields.merge(variable.getEnclosingElement(), 1, Integer::sum);
            }
            return super.visitVariable(tree, nothing);
        }

        @Override
        public Void visitMethodInvocation(MethodInvocationTree tree, Void nothing) {
            Element called = here();
            String name = called.getEnclosingElement() + "." + called.getSimpleName();
            boolean superConstructor = called.getKind() == ElementKind.CONSTRUCTOR;
            if (name.startsWith("InterlockingFrame")) {
                boolean making = method == null || method.getKind() == ElementKind.CONSTRUCTOR;
                Check.holds(name + " is not called while an object is made", !making);
                if (!making) {
                    calls.get(method).add(called);
                }
            } else {
                Check.holds(name + " is of the library that is listed", superConstructor || LIBRARY.contains(name));
            }
            return super.visitMethodInvocation(tree, nothing);
        }

        @Override
        public Void visitNewClass(NewClassTree tree, Void nothing) {
            Check.holds(tree + " stands where a field begins", method == null);
            return super.visitNewClass(tree, nothing);
        }

        @Override
        public Void visitNewArray(NewArrayTree tree, Void nothing) {
            Check.holds(tree + " stands where a field begins", method == null);
            return super.visitNewArray(tree, nothing);
        }

        /** How many calls stand open at once when this method has called its deepest one; too many for a recursion. */
        int depthFrom(Element from) {
            if (depths.containsKey(from)) {
                return depths.get(from);
            }
            depths.put(from, DEEPEST + 1);
            int deepest = 0;
            for (Element called : calls.getOrDefault(from, Set.of())) {
                deepest = Math.max(deepest, depthFrom(called));
            }
            depths.put(from, deepest + 1);
            return deepest + 1;
        }
    }
}
