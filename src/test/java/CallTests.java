import com.sun.source.tree.ClassTree;
import com.sun.source.tree.CompilationUnitTree;
import com.sun.source.tree.MethodInvocationTree;
import com.sun.source.tree.MethodTree;
import com.sun.source.tree.NewArrayTree;
import com.sun.source.tree.NewClassTree;
import com.sun.source.tree.ThrowTree;
import com.sun.source.tree.Tree;
import com.sun.source.tree.VariableTree;
import com.sun.source.util.JavacTask;
import com.sun.source.util.TreePathScanner;
import com.sun.source.util.Trees;
import java.io.File;
import java.io.IOException;
import java.util.HashMap;
import java.util.HashSet;
import java.util.List;
import java.util.Map;
import java.util.Set;
import java.util.TreeMap;
import java.util.TreeSet;
import javax.lang.model.element.Element;
import javax.lang.model.element.ExecutableElement;
import javax.tools.JavaCompiler;
import javax.tools.StandardJavaFileManager;
import javax.tools.ToolProvider;

/** Rules 4, 6, 8, 11 and 12 of LANGUAGE.md, as far as they can be read off which method calls which, and where objects are made. */
public final class CallTests {
    private static final Set<String> LIBRARY = Set.of("String.length", "String.charAt", "String.isEmpty", "String.indexOf", "String.substring",
        "Math.floorMod", "Math.floorDiv", "Math.min", "Math.max", "Math.abs", "System.arraycopy", "Arrays.fill", "NoSuchElementException.<init>",
        "Object.<init>");
    private static final int DEEPEST = 8;

    private final Map<String, Set<String>> calls = new TreeMap<>();
    private final Map<String, Set<String>> reached = new HashMap<>();
    private final Map<String, Integer> depths = new HashMap<>();
    private final Set<String> library = new TreeSet<>();
    private Trees trees;

    private CallTests() {
    }

    public static void main(String[] args) throws IOException {
        CallTests tests = new CallTests();
        tests.readSource(new File(System.getProperty("source", "src/main/java/TurningSums.java")));
        tests.usesOnlyWhatIsListed();
        tests.goesNoDeeperThanEight();
        tests.onlySumsCallThemselves();
        Due.end();
    }

    private void readSource(File source) throws IOException {
        JavaCompiler compiler = ToolProvider.getSystemJavaCompiler();
        try (StandardJavaFileManager files = compiler.getStandardFileManager(null, null, null)) {
            JavacTask task = (JavacTask) compiler.getTask(null, files, null, List.of("-proc:none"), null, files.getJavaFileObjects(source));
            Iterable<? extends CompilationUnitTree> units = task.parse();
            task.analyze();
            trees = Trees.instance(task);
            for (CompilationUnitTree unit : units) {
                new Reader().scan(unit, null);
            }
        }
        Due.is("methods are read", calls.size() > 100, true);
    }

    /** Follows the source and knows in which method it stands; outside methods (what fields begin with) that is the constructor. */
    private final class Reader extends TreePathScanner<Void, Void> {
        private String method = "";
        private boolean inMethod = false;
        private boolean inConstructor = false;

        @Override
        public Void visitClass(ClassTree tree, Void nothing) {
            String outside = method;
            method = tree.getSimpleName() + ".<init>";
            super.visitClass(tree, nothing);
            method = outside;
            return null;
        }

        @Override
        public Void visitMethod(MethodTree tree, Void nothing) {
            String outside = method;
            method = nameOf((ExecutableElement) trees.getElement(getCurrentPath()));
            calls.computeIfAbsent(method, key -> new TreeSet<>());
            inConstructor = tree.getReturnType() == null;
            inMethod = !inConstructor;
            super.visitMethod(tree, nothing);
            inMethod = false;
            inConstructor = false;
            method = outside;
            return null;
        }

        @Override
        public Void visitMethodInvocation(MethodInvocationTree tree, Void nothing) {
            meet(trees.getElement(getCurrentPath()));
            return super.visitMethodInvocation(tree, nothing);
        }

        @Override
        public Void visitNewClass(NewClassTree tree, Void nothing) {
            boolean thrown = getCurrentPath().getParentPath().getLeaf() instanceof ThrowTree;
            Due.is(method + " makes an object", inMethod && !thrown, false);
            meet(trees.getElement(getCurrentPath()));
            return super.visitNewClass(tree, nothing);
        }

        @Override
        public Void visitNewArray(NewArrayTree tree, Void nothing) {
            Due.is(method + " makes an array", inMethod, false);
            return super.visitNewArray(tree, nothing);
        }

        @Override
        public Void visitThrow(ThrowTree tree, Void nothing) {
            Due.is(method + " is a constructor and throws", inConstructor, false);
            return super.visitThrow(tree, nothing);
        }

        @Override
        public Void visitVariable(VariableTree tree, Void nothing) {
            Tree type = tree.getType();
            Due.is(method + " has a variable of no told type", type == null, false);
            return super.visitVariable(tree, nothing);
        }

        private void meet(Element called) {
            String name = nameOf((ExecutableElement) called);
            calls.computeIfAbsent(method, key -> new TreeSet<>()).add(name);
            if (called.getEnclosingElement().toString().startsWith("java.")) {
                library.add(name);
                calls.computeIfAbsent(name, key -> new TreeSet<>());
            }
        }

        private String nameOf(ExecutableElement element) {
            return element.getEnclosingElement().getSimpleName() + "." + element.getSimpleName();
        }
    }

    private void usesOnlyWhatIsListed() {
        for (String name : library) {
            Due.is("the library's " + name + " is used", LIBRARY.contains(name), true);
        }
    }

    private Set<String> reachedFrom(String method) {
        Set<String> known = reached.get(method);
        if (known == null) {
            known = new HashSet<>();
            TreeSet<String> open = new TreeSet<>(calls.getOrDefault(method, Set.of()));
            while (!open.isEmpty()) {
                String next = open.pollFirst();
                if (known.add(next)) {
                    open.addAll(calls.getOrDefault(next, Set.of()));
                }
            }
            reached.put(method, known);
        }
        return known;
    }

    private boolean together(String one, String other) {
        return one.equals(other) || reachedFrom(one).contains(other) && reachedFrom(other).contains(one);
    }

    /** How deep the calls from a method go, it counted; methods that call one another count once. */
    private int depthOf(String method) {
        Integer known = depths.get(method);
        if (known == null) {
            int deepest = 0;
            for (String mate : calls.keySet()) {
                for (String called : together(method, mate) ? calls.get(mate) : Set.<String>of()) {
                    deepest = together(method, called) ? deepest : Math.max(deepest, depthOf(called));
                }
            }
            known = deepest + 1;
            depths.put(method, known);
        }
        return known;
    }

    private void goesNoDeeperThanEight() {
        for (String method : calls.keySet()) {
            Due.is(method + " goes " + depthOf(method) + " deep", depthOf(method) <= DEEPEST, true);
        }
    }

    private void onlySumsCallThemselves() {
        Set<String> due = Set.of("Reader.readSum", "Reader.readProduct", "Reader.readAtom", "Reader.readDeeper");
        Set<String> got = new TreeSet<>();
        for (String method : calls.keySet()) {
            if (reachedFrom(method).contains(method)) {
                got.add(method);
            }
        }
        Due.is("these call themselves: " + got, got.equals(due), true);
    }
}
