import com.sun.source.tree.AssertTree;
import com.sun.source.tree.ClassTree;
import com.sun.source.tree.CompilationUnitTree;
import com.sun.source.tree.LambdaExpressionTree;
import com.sun.source.tree.MemberReferenceTree;
import com.sun.source.tree.MethodInvocationTree;
import com.sun.source.tree.MethodTree;
import com.sun.source.tree.NewClassTree;
import com.sun.source.tree.SynchronizedTree;
import com.sun.source.tree.ThrowTree;
import com.sun.source.tree.Tree;
import com.sun.source.tree.TryTree;
import com.sun.source.tree.VariableTree;
import com.sun.source.util.JavacTask;
import com.sun.source.util.TreePathScanner;
import com.sun.source.util.Trees;
import java.nio.file.Path;
import java.util.ArrayList;
import java.util.HashMap;
import java.util.LinkedHashMap;
import java.util.LinkedHashSet;
import java.util.List;
import java.util.Map;
import java.util.Set;
import javax.lang.model.element.Element;
import javax.lang.model.element.ElementKind;
import javax.lang.model.element.ExecutableElement;
import javax.lang.model.element.Modifier;
import javax.lang.model.element.TypeElement;
import javax.tools.JavaCompiler;
import javax.tools.StandardJavaFileManager;
import javax.tools.ToolProvider;

/** What LANGUAGE.md says in numbers or by name, and a compiler's own tree of the class can tell. */
public final class LanguageTest {
    private static final Path FILE = Path.of("src/main/java/GrammarAmbiguity.java");
    private static final Set<String> LIBRARY = Set.of("Math.max", "Math.min");
    private static final Set<String> EXCEPTIONS = Set.of("IllegalStateException",
            "IllegalArgumentException", "IndexOutOfBoundsException", "NoSuchElementException");

    private final Check check = new Check("LanguageTest");
    private final Map<ExecutableElement, Set<ExecutableElement>> calls = new LinkedHashMap<>();
    private final Map<ExecutableElement, Integer> depths = new HashMap<>();
    private final List<ExecutableElement> open = new ArrayList<>();
    private final List<TypeElement> types = new ArrayList<>();
    private final Set<String> recursive = new LinkedHashSet<>();
    private JavacTask task;

    public static void main(String[] args) throws Exception {
        LanguageTest test = new LanguageTest();
        test.read();
        test.classesAndFields();
        test.depthOfCalls();
        test.check.end();
    }

    private void read() throws Exception {
        JavaCompiler compiler = ToolProvider.getSystemJavaCompiler();
        try (StandardJavaFileManager files = compiler.getStandardFileManager(null, null, null)) {
            task = (JavacTask) compiler.getTask(null, files, null, List.of("-proc:none"), null,
                    files.getJavaFileObjects(FILE));
            Iterable<? extends CompilationUnitTree> units = task.parse();
            task.analyze();
            for (CompilationUnitTree unit : units) {
                new Reader(unit).scan(unit, null);
            }
        }
    }

    /** Reads the whole file, looks at each method and remembers what it calls. */
    private final class Reader extends TreePathScanner<Void, ExecutableElement> {
        private final CompilationUnitTree unit;
        private final Trees trees = Trees.instance(task);

        Reader(CompilationUnitTree unit) {
            this.unit = unit;
        }

        private Element element() {
            return trees.getElement(getCurrentPath());
        }

        private void never(String rule, Tree tree) {
            check.due(rule + " in line " + line(trees.getSourcePositions()
                    .getStartPosition(unit, tree)), true, false);
        }

        private long line(long position) {
            return unit.getLineMap().getLineNumber(position);
        }

        @Override
        public Void visitClass(ClassTree tree, ExecutableElement method) {
            types.add((TypeElement) element());
            return super.visitClass(tree, method);
        }

        @Override
        public Void visitMethod(MethodTree tree, ExecutableElement outer) {
            ExecutableElement method = (ExecutableElement) element();
            calls.put(method, new LinkedHashSet<>());
            check.due("11: at most seven parameters: " + method,
                    tree.getParameters().size() <= 7, true);
            long first = line(trees.getSourcePositions().getStartPosition(unit, tree));
            long last = line(trees.getSourcePositions().getEndPosition(unit, tree));
            check.due("11: some sixty lines: " + method, last - first < 60, true);
            return super.visitMethod(tree, method);
        }

        @Override
        public Void visitMethodInvocation(MethodInvocationTree tree, ExecutableElement method) {
            call(method, (ExecutableElement) element());
            return super.visitMethodInvocation(tree, method);
        }

        @Override
        public Void visitNewClass(NewClassTree tree, ExecutableElement method) {
            call(method, (ExecutableElement) element());
            return super.visitNewClass(tree, method);
        }

        private void call(ExecutableElement from, ExecutableElement to) {
            if (from != null && to != null) {
                calls.get(from).add(to);
            }
        }

        @Override
        public Void visitVariable(VariableTree tree, ExecutableElement method) {
            Element variable = element();
            if (variable.getModifiers().contains(Modifier.STATIC)) {
                check.due("5: static and final: " + variable,
                        variable.getModifiers().contains(Modifier.FINAL), true);
            }
            return super.visitVariable(tree, method);
        }

        @Override
        public Void visitThrow(ThrowTree tree, ExecutableElement method) {
            check.due("6: a throw in a constructor",
                    method.getKind() == ElementKind.CONSTRUCTOR, false);
            return super.visitThrow(tree, method);
        }

        @Override
        public Void visitTry(TryTree tree, ExecutableElement method) {
            never("a try, which the class does not need", tree);
            return super.visitTry(tree, method);
        }

        @Override
        public Void visitLambdaExpression(LambdaExpressionTree tree, ExecutableElement method) {
            never("2: a lambda", tree);
            return super.visitLambdaExpression(tree, method);
        }

        @Override
        public Void visitMemberReference(MemberReferenceTree tree, ExecutableElement method) {
            never("2: a method reference", tree);
            return super.visitMemberReference(tree, method);
        }

        @Override
        public Void visitSynchronized(SynchronizedTree tree, ExecutableElement method) {
            never("6: synchronized", tree);
            return super.visitSynchronized(tree, method);
        }

        @Override
        public Void visitAssert(AssertTree tree, ExecutableElement method) {
            never("6: an assert", tree);
            return super.visitAssert(tree, method);
        }
    }

    /** Rule 11: "the file has at most some twelve classes, and a class some twenty fields". */
    private void classesAndFields() {
        check.due("11: at most twelve classes", types.size() <= 12, true);
        for (TypeElement type : types) {
            int fields = 0;
            for (Element member : type.getEnclosedElements()) {
                boolean isField = member.getKind() == ElementKind.FIELD;
                fields += isField && !member.getModifiers().contains(Modifier.STATIC) ? 1 : 0;
            }
            check.due("11: at most twenty fields: " + type, fields <= 20, true);
            check.due("2: static: " + type, type.getNestingKind().isNested()
                    == type.getModifiers().contains(Modifier.STATIC), true);
        }
    }

    /** Rule 11: "calls that are no recursion go at most eight deep". */
    private void depthOfCalls() {
        int deepest = 0;
        for (ExecutableElement method : calls.keySet()) {
            if (method.getModifiers().contains(Modifier.PUBLIC)) {
                int depth = depth(method);
                check.due("11: at most eight deep: " + method + " by way of " + chain(method),
                        depth <= 8, true);
                deepest = Math.max(deepest, depth);
            }
        }
        check.due("the calls have been found", deepest > 3, true);
        check.due("8: the methods that call themselves", recursive.toString(), "[grow]");
    }

    /** How many methods are open at once, this one counted, if none is open twice. */
    private int depth(ExecutableElement method) {
        Integer known = depths.get(method);
        if (known != null) {
            return known;
        }
        open.add(method);
        int below = 0;
        for (ExecutableElement callee : callees(method)) {
            if (callee.equals(method)) {
                recursive.add(method.getSimpleName().toString());
            } else {
                check.due("8: a ring of methods through " + callee, open.contains(callee), false);
                below = Math.max(below, open.contains(callee) ? 0 : depth(callee));
            }
        }
        open.remove(method);
        depths.put(method, below + 1);
        return below + 1;
    }

    private String chain(ExecutableElement method) {
        StringBuilder names = new StringBuilder(method.getSimpleName());
        ExecutableElement at = method;
        while (at != null) {
            ExecutableElement next = null;
            for (ExecutableElement callee : callees(at)) {
                if (depth(callee) == depth(at) - 1) {
                    next = callee;
                }
            }
            names.append(next == null ? "" : ", " + next.getSimpleName());
            at = next;
        }
        return names.toString();
    }

    /** What a method of the file calls there, with all that may stand behind an abstract one. */
    private Set<ExecutableElement> callees(ExecutableElement method) {
        Set<ExecutableElement> all = new LinkedHashSet<>();
        for (ExecutableElement callee : calls.get(method)) {
            TypeElement owner = (TypeElement) callee.getEnclosingElement();
            if (!types.contains(owner)) {
                library(owner, callee);
                continue;
            }
            if (calls.containsKey(callee)) {
                all.add(callee);
            }
            for (ExecutableElement other : calls.keySet()) {
                if (task.getElements().overrides(other, callee,
                        (TypeElement) other.getEnclosingElement())) {
                    all.add(other);
                }
            }
        }
        return all;
    }

    /** Rules 4 and 6: of the library only what the class needs of what stands there. */
    private void library(TypeElement owner, ExecutableElement callee) {
        String name = owner.getSimpleName().toString();
        if (callee.getKind() == ElementKind.CONSTRUCTOR) {
            check.due("6: new " + name, EXCEPTIONS.contains(name) || name.equals("Object"), true);
        } else {
            String whole = name + "." + callee.getSimpleName();
            check.due("4: " + whole, LIBRARY.contains(whole), true);
        }
    }
}
