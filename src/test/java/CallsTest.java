import com.sun.source.tree.CompilationUnitTree;
import com.sun.source.tree.MethodInvocationTree;
import com.sun.source.tree.MethodTree;
import com.sun.source.tree.NewClassTree;
import com.sun.source.tree.Tree;
import com.sun.source.util.JavacTask;
import com.sun.source.util.TreePathScanner;
import com.sun.source.util.Trees;
import java.io.File;
import java.util.HashMap;
import java.util.HashSet;
import java.util.LinkedHashMap;
import java.util.List;
import java.util.Map;
import java.util.Set;
import javax.lang.model.element.Element;
import javax.lang.model.element.ExecutableElement;
import javax.lang.model.element.Modifier;
import javax.lang.model.element.TypeElement;
import javax.lang.model.element.VariableElement;
import javax.tools.JavaCompiler;
import javax.tools.StandardJavaFileManager;
import javax.tools.ToolProvider;

/** The rules of LANGUAGE.md on what calls what: the library, recursion, how deep calls go. */
public final class CallsTest {
    static final int DEEPEST = 8;
    /** What rule 4 lists and may be needed here. */
    static final Set<String> LIBRARY = Set.of("String.length", "String.charAt", "String.isEmpty", "String.equals",
        "String.substring", "String.toCharArray", "StringBuilder.append", "StringBuilder.charAt",
        "StringBuilder.setLength", "StringBuilder.length", "Math.abs", "Math.max", "Math.min", "Math.floorDiv",
        "Math.floorMod", "Integer.compare", "Long.compare", "System.arraycopy", "Arrays.copyOf", "Arrays.fill");

    public static void main(String[] args) throws Exception {
        JavaCompiler compiler = ToolProvider.getSystemJavaCompiler();
        try (StandardJavaFileManager files = compiler.getStandardFileManager(null, null, null)) {
            JavacTask task = (JavacTask) compiler.getTask(null, files, null, List.of("-proc:none"), null,
                files.getJavaFileObjects(new File("src/main/java/HoleDesk.java")));
            Calls calls = new Calls(Trees.instance(task));
            Iterable<? extends CompilationUnitTree> units = task.parse();
            task.analyze();
            for (CompilationUnitTree unit : units) {
                calls.scan(unit, null);
            }
            calls.compare();
        }
        Desk.end();
    }

    static final class Calls extends TreePathScanner<Void, Void> {
        final Trees trees;
        final Map<Element, Set<Element>> called = new LinkedHashMap<>();
        final Map<Element, Set<Element>> reached = new HashMap<>();
        final Map<Element, Integer> deep = new HashMap<>();

        Calls(Trees trees) {
            this.trees = trees;
        }

        @Override public Void visitMethod(MethodTree tree, Void v) {
            called.put(trees.getElement(getCurrentPath()), new HashSet<>());
            return super.visitMethod(tree, v);
        }

        @Override public Void visitMethodInvocation(MethodInvocationTree tree, Void v) {
            note(trees.getElement(trees.getPath(getCurrentPath().getCompilationUnit(), tree.getMethodSelect())));
            return super.visitMethodInvocation(tree, v);
        }

        @Override public Void visitNewClass(NewClassTree tree, Void v) {
            note(trees.getElement(getCurrentPath()));
            return super.visitNewClass(tree, v);
        }

        private void note(Element callee) {
            TypeElement owner = (TypeElement) callee.getEnclosingElement();
            boolean own = owner.getQualifiedName().toString().startsWith("HoleDesk");
            String name = owner.getSimpleName() + "." + callee.getSimpleName();
            Element caller = caller();
            if (!own) {
                boolean above = callee.getSimpleName().contentEquals("<init>") && name.startsWith("Object");
                Desk.due("4: " + name, above || LIBRARY.contains(name) ? 1 : 0, 1);
            } else if (caller != null) {
                called.get(caller).add(callee);
            }
        }

        /** The method in which the scan is, null in a field's initialiser. */
        private Element caller() {
            for (Tree tree : getCurrentPath()) {
                if (tree instanceof MethodTree) {
                    return trees.getElement(trees.getPath(getCurrentPath().getCompilationUnit(), tree));
                }
            }
            return null;
        }

        void compare() {
            for (Element method : called.keySet()) {
                reached.put(method, reach(method));
            }
            int deepest = 0;
            for (Element method : called.keySet()) {
                deepest = Math.max(deepest, depth(method));
                Desk.due("11: calls below " + method, depth(method) <= DEEPEST ? 1 : 0, 1);
                if (isRecursive(method)) {
                    Desk.due("8: " + method + " is private or of a private class", isInside(method) ? 1 : 0, 1);
                    Desk.due("8: " + method + " carries its depth", carriesDepth(method) ? 1 : 0, 1);
                }
                Desk.due("1: no call of the face: " + method, callsTheFace(method) ? 1 : 0, 0);
            }
            System.out.println("calls that are no recursion go " + deepest + " deep");
        }

        private Set<Element> reach(Element from) {
            Set<Element> all = new HashSet<>();
            List<Element> todo = new java.util.ArrayList<>(called.getOrDefault(from, Set.of()));
            while (!todo.isEmpty()) {
                Element next = todo.remove(todo.size() - 1);
                if (all.add(next)) {
                    todo.addAll(called.getOrDefault(next, Set.of()));
                }
            }
            return all;
        }

        private boolean isRecursive(Element method) {
            return reached.get(method).contains(method);
        }

        private boolean callOneAnother(Element a, Element b) {
            return reached.get(a).contains(b) && reached.getOrDefault(b, Set.of()).contains(a);
        }

        /** How many calls deep it goes below a method, those of a recursion not counted. */
        private int depth(Element from) {
            Integer known = deep.get(from);
            if (known != null) {
                return known;
            }
            Set<Element> ring = new HashSet<>(Set.of(from));
            for (Element other : reached.getOrDefault(from, Set.of())) {
                if (callOneAnother(from, other)) {
                    ring.add(other);
                }
            }
            int most = 0;
            for (Element one : ring) {
                for (Element callee : called.getOrDefault(one, Set.of())) {
                    if (!ring.contains(callee)) {
                        most = Math.max(most, 1 + depth(callee));
                    }
                }
            }
            for (Element one : ring) {
                deep.put(one, most);
            }
            return most;
        }

        private static boolean isInside(Element method) {
            return method.getModifiers().contains(Modifier.PRIVATE)
                || method.getEnclosingElement().getModifiers().contains(Modifier.PRIVATE);
        }

        private static boolean carriesDepth(Element method) {
            for (VariableElement given : ((ExecutableElement) method).getParameters()) {
                if (given.getSimpleName().contentEquals("depth")) {
                    return true;
                }
            }
            return false;
        }

        private boolean callsTheFace(Element method) {
            for (Element callee : called.get(method)) {
                boolean outer = callee.getEnclosingElement().getSimpleName().contentEquals("HoleDesk");
                if (outer && callee.getModifiers().contains(Modifier.PUBLIC)) {
                    return true;
                }
            }
            return false;
        }
    }
}
