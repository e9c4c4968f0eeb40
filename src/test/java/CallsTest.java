import com.sun.source.tree.ClassTree;
import com.sun.source.tree.CompilationUnitTree;
import com.sun.source.tree.DoWhileLoopTree;
import com.sun.source.tree.ExpressionTree;
import com.sun.source.tree.ForLoopTree;
import com.sun.source.tree.MemberSelectTree;
import com.sun.source.tree.MethodInvocationTree;
import com.sun.source.tree.MethodTree;
import com.sun.source.tree.NewClassTree;
import com.sun.source.tree.Tree;
import com.sun.source.tree.TypeCastTree;
import com.sun.source.tree.WhileLoopTree;
import com.sun.source.util.JavacTask;
import com.sun.source.util.TreePathScanner;
import com.sun.source.util.Trees;
import java.io.IOException;
import java.nio.file.Path;
import java.util.ArrayDeque;
import java.util.ArrayList;
import java.util.Collection;
import java.util.Deque;
import java.util.HashMap;
import java.util.LinkedHashMap;
import java.util.List;
import java.util.Map;
import java.util.Set;
import java.util.TreeSet;
import javax.lang.model.element.Element;
import javax.lang.model.element.ExecutableElement;
import javax.lang.model.element.Modifier;
import javax.lang.model.element.TypeElement;
import javax.lang.model.util.Elements;
import javax.lang.model.util.Types;
import javax.tools.JavaCompiler;
import javax.tools.StandardJavaFileManager;
import javax.tools.ToolProvider;

/** Who calls whom in the class, as the compiler reads it: LANGUAGE.md rules 4, 6, 8, 9 and 11. */
public final class CallsTest {
    private static final Dues D = new Dues();
    private static final int DEEPEST = 8;
    private static final Set<String> LIBRARY = Set.of("Math.max", "Math.min", "Integer.bitCount", "Arrays.fill",
        "System.arraycopy", "Object.<init>");

    public static void main(String[] args) throws IOException {
        JavaCompiler compiler = ToolProvider.getSystemJavaCompiler();
        try (StandardJavaFileManager files = compiler.getStandardFileManager(null, null, null)) {
            JavacTask task = (JavacTask) compiler.getTask(null, files, null, List.of("-proc:none"), null,
                files.getJavaFileObjects(Path.of("src/main/java/KitchenWheels.java")));
            Iterable<? extends CompilationUnitTree> units = task.parse();
            task.analyze();
            Graph graph = new Graph(task);
            units.forEach(unit -> graph.scan(unit, null));
            look(graph);
        }
        D.end("CallsTest");
    }

    private static void look(Graph graph) {
        isTrue("the library's calls are " + graph.library, LIBRARY.containsAll(graph.library));
        isTrue("some calls were found", graph.callees.size() > 100);
        Map<Element, List<Element>> deepest = new HashMap<>();
        for (Element method : graph.callees.keySet()) {
            List<Element> chain = chainFrom(graph, method, deepest, new ArrayDeque<>());
            isTrue("at most " + DEEPEST + " deep: " + chain, chain.size() <= DEEPEST);
            boolean open = method.getModifiers().contains(Modifier.PUBLIC);
            isTrue(method + " of " + method.getEnclosingElement() + " is called", open || graph.isCalled(method));
        }
    }

    private static void isTrue(String what, boolean is) {
        D.due(1, what, is ? 1 : 0, 1);
    }

    /** The longest run of calls that stand open at once; one that calls itself again is told as a fault. */
    private static List<Element> chainFrom(Graph graph, Element method, Map<Element, List<Element>> known,
            Deque<Element> open) {
        if (known.containsKey(method)) {
            return known.get(method);
        }
        isTrue(method + " does not come back to itself by " + open, !open.contains(method));
        List<Element> longest = List.of();
        if (!open.contains(method)) {
            open.push(method);
            for (Element callee : graph.callees.getOrDefault(method, Set.of())) {
                List<Element> chain = chainFrom(graph, callee, known, open);
                longest = chain.size() > longest.size() ? chain : longest;
            }
            open.pop();
        }
        List<Element> whole = new ArrayList<>(List.of(method));
        whole.addAll(longest);
        known.put(method, whole);
        return whole;
    }

    /** Each method of the file with all that it may call, by a class below, too. */
    private static final class Graph extends TreePathScanner<Void, Void> {
        final Map<Element, Collection<Element>> callees = new LinkedHashMap<>();
        final Set<String> library = new TreeSet<>();
        private final Trees trees;
        private final Elements elements;
        private final Types types;
        private final List<TypeElement> classes = new ArrayList<>();
        private final List<Call> calls = new ArrayList<>();
        private Element within;

        private record Call(Element caller, ExecutableElement callee, TypeElement receiver) {
        }

        Graph(JavacTask task) {
            trees = Trees.instance(task);
            elements = task.getElements();
            types = task.getTypes();
        }

        @Override
        public Void visitCompilationUnit(CompilationUnitTree unit, Void none) {
            super.visitCompilationUnit(unit, none);
            calls.forEach(this::link);
            return null;
        }

        @Override
        public Void visitClass(ClassTree tree, Void none) {
            classes.add((TypeElement) trees.getElement(getCurrentPath()));
            return super.visitClass(tree, none);
        }

        @Override
        public Void visitMethod(MethodTree tree, Void none) {
            within = trees.getElement(getCurrentPath());
            callees.put(within, new ArrayList<>());
            super.visitMethod(tree, none);
            within = null;
            return null;
        }

        @Override
        public Void visitMethodInvocation(MethodInvocationTree tree, Void none) {
            ExecutableElement callee = (ExecutableElement) trees.getElement(getCurrentPath());
            ExpressionTree select = tree.getMethodSelect();
            Element receiver = within == null ? callee.getEnclosingElement() : within.getEnclosingElement();
            boolean exact = false;
            if (select instanceof MemberSelectTree of) {
                exact = of.getExpression().toString().equals("super");
                receiver = callee.getEnclosingElement();
            } else if (!types.isSubtype(receiver.asType(), callee.getEnclosingElement().asType())) {
                receiver = callee.getEnclosingElement();
            }
            calls.add(new Call(within, callee, exact ? null : (TypeElement) receiver));
            return super.visitMethodInvocation(tree, none);
        }

        @Override
        public Void visitNewClass(NewClassTree tree, Void none) {
            calls.add(new Call(within, (ExecutableElement) trees.getElement(getCurrentPath()), null));
            return super.visitNewClass(tree, none);
        }

        @Override
        public Void visitTypeCast(TypeCastTree tree, Void none) {
            boolean plain = trees.getTypeMirror(getCurrentPath()).getKind().isPrimitive();
            isTrue("the cast " + tree + " is one of numbers", plain);
            return super.visitTypeCast(tree, none);
        }

        @Override
        public Void visitForLoop(ForLoopTree tree, Void none) {
            bounded(tree, tree.getCondition());
            return super.visitForLoop(tree, none);
        }

        @Override
        public Void visitWhileLoop(WhileLoopTree tree, Void none) {
            bounded(tree, tree.getCondition());
            return super.visitWhileLoop(tree, none);
        }

        @Override
        public Void visitDoWhileLoop(DoWhileLoopTree tree, Void none) {
            bounded(tree, tree.getCondition());
            return super.visitDoWhileLoop(tree, none);
        }

        /** Every bound of the class is one that a counter stays below. */
        private void bounded(Tree loop, ExpressionTree condition) {
            isTrue("a loop counts against a bound: " + loop, condition != null && condition.toString().contains("<"));
        }

        boolean isCalled(Element method) {
            return callees.values().stream().anyMatch(some -> some.contains(method))
                || calls.stream().anyMatch(call -> call.caller() == null && call.callee().equals(method))
                || method.getModifiers().contains(Modifier.ABSTRACT);
        }

        private void link(Call call) {
            Element owner = call.callee().getEnclosingElement();
            if (!classes.contains(owner)) {
                library.add(owner.getSimpleName() + "." + call.callee().getSimpleName());
                return;
            }
            Collection<Element> from = callees.getOrDefault(call.caller(), new ArrayList<>());
            from.add(call.callee());
            for (TypeElement below : classes) {
                boolean may = call.receiver() != null && types.isSubtype(below.asType(), call.receiver().asType());
                for (Element member : below.getEnclosedElements()) {
                    if (may && member instanceof ExecutableElement own
                            && elements.overrides(own, call.callee(), below)) {
                        from.add(own);
                    }
                }
            }
        }
    }
}
