import com.sun.source.tree.BinaryTree;
import com.sun.source.tree.ClassTree;
import com.sun.source.tree.CompilationUnitTree;
import com.sun.source.tree.CompoundAssignmentTree;
import com.sun.source.tree.MethodInvocationTree;
import com.sun.source.tree.MethodTree;
import com.sun.source.tree.NewClassTree;
import com.sun.source.tree.Tree;
import com.sun.source.util.JavacTask;
import com.sun.source.util.TreePathScanner;
import com.sun.source.util.Trees;
import java.nio.file.Path;
import java.util.EnumSet;
import java.util.HashMap;
import java.util.LinkedHashMap;
import java.util.LinkedHashSet;
import java.util.List;
import java.util.Map;
import java.util.Set;
import javax.lang.model.element.Element;
import javax.lang.model.element.Modifier;
import javax.lang.model.element.TypeElement;
import javax.lang.model.type.TypeMirror;
import javax.tools.JavaCompiler;
import javax.tools.StandardJavaFileManager;
import javax.tools.ToolProvider;

/**
 * Rules of LANGUAGE.md as the compiler itself reads the source: what stands nowhere (2, 6, 10),
 * the library (4), recursion (8), how many classes there are and how deep calls go (11).
 */
public final class CallsTest {
    private static final Check CHECK = new Check("CallsTest");
    private static final Path SOURCE = Path.of("src/main/java/QuaternionDesk.java");
    private static final int MOST_DEPTH = 8, MOST_CLASSES = 12;
    /** What the source uses of the library; all of it is listed in LANGUAGE.md. */
    private static final Map<String, Set<String>> LIBRARY = Map.of(
            "java.lang.Object", Set.of("<init>"),
            "java.lang.String", Set.of("length", "charAt"),
            "java.lang.Math", Set.of("max", "min", "abs", "floorDiv", "floorMod"));
    private static final Set<Tree.Kind> NOWHERE = EnumSet.of(Tree.Kind.THROW, Tree.Kind.TRY,
            Tree.Kind.CATCH, Tree.Kind.SYNCHRONIZED, Tree.Kind.ASSERT, Tree.Kind.LAMBDA_EXPRESSION,
            Tree.Kind.MEMBER_REFERENCE, Tree.Kind.SWITCH_EXPRESSION, Tree.Kind.ANNOTATION,
            Tree.Kind.UNION_TYPE, Tree.Kind.IMPORT);

    /** Each own method, and which own methods it calls. */
    private final Map<Element, Set<Element>> calls = new LinkedHashMap<>();
    private final Map<Element, Integer> depths = new HashMap<>();
    private final Set<Element> open = new LinkedHashSet<>();
    private int classes = 0;

    public static void main(String[] args) throws Exception {
        CallsTest test = new CallsTest();
        test.read();
        CHECK.isTrue("the source has classes: " + test.classes, test.classes > 0);
        CHECK.isTrue("rule 11, classes: " + test.classes, test.classes <= MOST_CLASSES);
        for (Element method : test.calls.keySet()) {
            int depth = test.depth(method);
            CHECK.isTrue("rule 11, " + told(method) + " goes " + depth + " deep", depth <= MOST_DEPTH);
        }
        CHECK.finish();
    }

    private void read() throws Exception {
        JavaCompiler compiler = ToolProvider.getSystemJavaCompiler();
        try (StandardJavaFileManager files = compiler.getStandardFileManager(null, null, null)) {
            JavacTask task = (JavacTask) compiler.getTask(null, files, null,
                    List.of("--release", "17", "-proc:none"), null, files.getJavaFileObjects(SOURCE));
            Trees trees = Trees.instance(task);
            Iterable<? extends CompilationUnitTree> units = task.parse();
            task.analyze();
            for (CompilationUnitTree unit : units) {
                new Reader(trees).scan(unit, null);
            }
        }
    }

    private static String told(Element element) {
        return element.getEnclosingElement() + "." + element;
    }

    /** The most methods that stand open at once from this one on; one that calls itself counts once. */
    private int depth(Element method) {
        Integer known = depths.get(method);
        if (known != null) {
            return known;
        }
        open.add(method);
        int deepest = 0;
        for (Element called : calls.getOrDefault(method, Set.of())) {
            if (called.equals(method)) {
                CHECK.isTrue("rule 8, " + told(method) + " calls itself, so it is private and static",
                        method.getModifiers().containsAll(Set.of(Modifier.PRIVATE, Modifier.STATIC)));
            } else if (open.contains(called)) {
                CHECK.isTrue("rule 8, " + told(method) + " and " + told(called) + " call one another", false);
            } else {
                deepest = Math.max(deepest, depth(called));
            }
        }
        open.remove(method);
        depths.put(method, deepest + 1);
        return deepest + 1;
    }

    private final class Reader extends TreePathScanner<Void, Element> {
        private final Trees trees;

        Reader(Trees trees) {
            this.trees = trees;
        }

        private Element element() {
            return trees.getElement(getCurrentPath());
        }

        @Override
        public Void scan(Tree tree, Element in) {
            if (tree != null) {
                CHECK.isTrue("rules 2, 4, 6, no " + tree.getKind(), !NOWHERE.contains(tree.getKind()));
            }
            return super.scan(tree, in);
        }

        @Override
        public Void visitClass(ClassTree tree, Element in) {
            classes++;
            Element own = element();
            Element around = own.getEnclosingElement();
            boolean isInside = around instanceof TypeElement;
            CHECK.isTrue("rule 2, " + own + " is static", !isInside || own.getModifiers().contains(Modifier.STATIC));
            CHECK.isTrue("rule 2, " + own + " has a name", !tree.getSimpleName().isEmpty());
            CHECK.isTrue("rule 2, " + own + " is in no method", in == null);
            return super.visitClass(tree, in);
        }

        @Override
        public Void visitMethod(MethodTree tree, Element in) {
            Element own = element();
            calls.computeIfAbsent(own, key -> new LinkedHashSet<>());
            return super.visitMethod(tree, own);
        }

        @Override
        public Void visitMethodInvocation(MethodInvocationTree tree, Element in) {
            called(in, element());
            return super.visitMethodInvocation(tree, in);
        }

        @Override
        public Void visitNewClass(NewClassTree tree, Element in) {
            called(in, element());
            return super.visitNewClass(tree, in);
        }

        @Override
        public Void visitBinary(BinaryTree tree, Element in) {
            TypeMirror type = trees.getTypeMirror(getCurrentPath());
            CHECK.isTrue("rule 10, no text is joined by +: " + tree, type.getKind().isPrimitive());
            return super.visitBinary(tree, in);
        }

        @Override
        public Void visitCompoundAssignment(CompoundAssignmentTree tree, Element in) {
            TypeMirror type = trees.getTypeMirror(getCurrentPath());
            CHECK.isTrue("rule 10, no text is joined by +=: " + tree, type.getKind().isPrimitive());
            return super.visitCompoundAssignment(tree, in);
        }

        private void called(Element from, Element to) {
            Element owner = to.getEnclosingElement();
            if (!owner.toString().startsWith("QuaternionDesk")) {
                Set<String> listed = LIBRARY.getOrDefault(owner.toString(), Set.of());
                CHECK.isTrue("rule 4, " + told(to), listed.contains(to.getSimpleName().toString()));
                return;
            }
            // a field's first value is made where the object is: by no method
            if (from != null) {
                calls.computeIfAbsent(from, key -> new LinkedHashSet<>()).add(to);
            }
        }
    }
}
