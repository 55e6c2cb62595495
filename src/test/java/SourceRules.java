import com.sun.source.tree.AssertTree;
import com.sun.source.tree.ClassTree;
import com.sun.source.tree.CompilationUnitTree;
import com.sun.source.tree.LambdaExpressionTree;
import com.sun.source.tree.MemberReferenceTree;
import com.sun.source.tree.MethodInvocationTree;
import com.sun.source.tree.MethodTree;
import com.sun.source.tree.NewClassTree;
import com.sun.source.tree.SynchronizedTree;
import com.sun.source.tree.ThrowTree;
import com.sun.source.tree.Tree;
import com.sun.source.tree.TryTree;
import com.sun.source.tree.VariableTree;
import com.sun.source.util.JavacTask;
import com.sun.source.util.TreePathScanner;
import com.sun.source.util.Trees;
import java.io.IOException;
import java.nio.file.Files;
import java.nio.file.Path;
import java.util.HashMap;
import java.util.HashSet;
import java.util.List;
import java.util.Map;
import java.util.Set;
import java.util.TreeSet;
import java.util.regex.Matcher;
import java.util.regex.Pattern;
import javax.lang.model.element.Element;
import javax.lang.model.element.ExecutableElement;
import javax.lang.model.element.Modifier;
import javax.tools.JavaCompiler;
import javax.tools.StandardJavaFileManager;
import javax.tools.ToolProvider;

/** What LANGUAGE.md asks of the source, as far as a program can see it, and the face that DOC.md prints. */
public final class SourceRules {
    private static final int MOST_LINES = 60;
    private static final int MOST_PARAMETERS = 7;
    private static final int MOST_CLASSES = 12;
    private static final int MOST_FIELDS = 20;
    private static final int MOST_DEPTH = 8;
    private static final Map<String, Set<String>> LIBRARY = Map.of(
            "java.lang.Math", Set.of("min", "max", "abs"),
            "java.lang.Integer", Set.of("bitCount", "numberOfTrailingZeros"),
            "java.lang.System", Set.of("arraycopy"),
            "java.util.Arrays", Set.of("fill"),
            "java.lang.Object", Set.of("<init>"));

    private final Check check = new Check();
    private final Map<Element, Set<Element>> calls = new HashMap<>();
    private final Set<Element> written = new HashSet<>();
    private final Set<String> publicNames = new HashSet<>();
    private int classes = 0;

    public static void main(String[] args) throws IOException {
        Path root = Path.of(args.length > 0 ? args[0] : ".");
        Path shared = Path.of(args.length > 1 ? args[1] : "../shared");
        Path source = root.resolve("src/main/java/PlaceMender.java");
        SourceRules rules = new SourceRules();
        rules.checkFace(Files.readString(shared.resolve("DOC.md")));
        rules.checkText(Files.readString(source));
        rules.checkTree(source);
        rules.check.end();
    }

    private void checkFace(String document) {
        Set<String> due = new TreeSet<>();
        Matcher m = Pattern.compile("    public (int|long) (\\w+)\\(([^)]*)\\);").matcher(document);
        while (m.find()) {
            int parameters = m.group(3).isEmpty() ? 0 : m.group(3).split(",").length;
            due.add(m.group(1) + " " + m.group(2) + " " + parameters);
            publicNames.add(m.group(2));
        }
        Set<String> found = new TreeSet<>();
        for (java.lang.reflect.Method method : PlaceMender.class.getDeclaredMethods()) {
            if (java.lang.reflect.Modifier.isPublic(method.getModifiers())) {
                found.add(method.getReturnType() + " " + method.getName() + " " + method.getParameterCount());
            }
        }
        check.same("methods that the document prints", due.size(), 50);
        check.holds("the face is the document's: " + found, found.equals(due));
    }

    private void checkText(String source) {
        check.holds("only signs 1 to 127", source.chars().allMatch(c -> c >= 1 && c <= 127));
        check.holds("no package line", !source.contains("package "));
    }

    private void checkTree(Path source) throws IOException {
        JavaCompiler compiler = ToolProvider.getSystemJavaCompiler();
        StandardJavaFileManager files = compiler.getStandardFileManager(null, null, null);
        JavacTask task = (JavacTask) compiler.getTask(null, files, null, List.of("-proc:none"), null,
                files.getJavaFileObjects(source));
        List<CompilationUnitTree> units = new java.util.ArrayList<>();
        task.parse().forEach(units::add);
        task.analyze();
        for (CompilationUnitTree unit : units) {
            new Scanner(unit, Trees.instance(task)).scan(unit, null);
        }
        check.holds("at most " + MOST_CLASSES + " classes: " + classes, classes <= MOST_CLASSES);
        for (Element method : written) {
            int depth = depthOf(method, new HashSet<>());
            check.holds(method + " goes " + depth + " deep", depth <= MOST_DEPTH);
        }
    }

    /** How many calls stand open at most, this one too; far too many if one calls itself. */
    private int depthOf(Element method, Set<Element> open) {
        if (!open.add(method)) {
            return 1000;
        }
        int deepest = 0;
        for (Element called : calls.getOrDefault(method, Set.of())) {
            deepest = Math.max(deepest, depthOf(called, open));
        }
        open.remove(method);
        return 1 + deepest;
    }

    private final class Scanner extends TreePathScanner<Void, Void> {
        private final CompilationUnitTree unit;
        private final Trees trees;
        private Element caller;

        Scanner(CompilationUnitTree unit, Trees trees) {
            this.unit = unit;
            this.trees = trees;
        }

        private long lineOf(long position) {
            return unit.getLineMap().getLineNumber(position);
        }

        private void refuse(String what, Tree tree) {
            long line = lineOf(trees.getSourcePositions().getStartPosition(unit, tree));
            check.holds(what + " in line " + line, false);
        }

        @Override
        public Void visitClass(ClassTree tree, Void unused) {
            classes++;
            Set<Modifier> flags = tree.getModifiers().getFlags();
            boolean outer = tree.getSimpleName().contentEquals("PlaceMender");
            check.holds(tree.getSimpleName() + " is of the right kind", outer
                    ? flags.equals(Set.of(Modifier.PUBLIC, Modifier.FINAL))
                    : flags.contains(Modifier.STATIC) && flags.contains(Modifier.PRIVATE));
            long fields = tree.getMembers().stream().filter(m -> m instanceof VariableTree v
                    && !v.getModifiers().getFlags().contains(Modifier.STATIC)).count();
            check.holds(tree.getSimpleName() + " has few fields: " + fields, fields <= MOST_FIELDS);
            for (Tree member : tree.getMembers()) {
                if (member instanceof VariableTree field) {
                    checkField(field, outer);
                }
            }
            return super.visitClass(tree, unused);
        }

        private void checkField(VariableTree field, boolean outer) {
            Set<Modifier> flags = field.getModifiers().getFlags();
            if (flags.contains(Modifier.STATIC)) {
                check.holds(field.getName() + " is final", flags.contains(Modifier.FINAL));
            }
            if (outer && !field.getName().contentEquals("NONE")) {
                check.holds(field.getName() + " is private", flags.contains(Modifier.PRIVATE));
            }
        }

        @Override
        public Void visitMethod(MethodTree tree, Void unused) {
            caller = trees.getElement(getCurrentPath());
            written.add(caller);
            long from = lineOf(trees.getSourcePositions().getStartPosition(unit, tree));
            long to = lineOf(trees.getSourcePositions().getEndPosition(unit, tree));
            check.holds(tree.getName() + " is short", to - from < MOST_LINES);
            check.holds(tree.getName() + " takes few numbers", tree.getParameters().size() <= MOST_PARAMETERS);
            boolean open = tree.getModifiers().getFlags().contains(Modifier.PUBLIC);
            boolean outer = caller.getEnclosingElement().getSimpleName().contentEquals("PlaceMender");
            check.holds(tree.getName() + " bears no public name", open || !publicNames.contains(tree.getName().toString()));
            check.holds(tree.getName() + " is public or private",
                    !outer || open || tree.getModifiers().getFlags().contains(Modifier.PRIVATE));
            return super.visitMethod(tree, unused);
        }

        @Override
        public Void visitMethodInvocation(MethodInvocationTree tree, Void unused) {
            note(trees.getElement(getCurrentPath()), tree);
            return super.visitMethodInvocation(tree, unused);
        }

        @Override
        public Void visitNewClass(NewClassTree tree, Void unused) {
            if (tree.getClassBody() != null) {
                refuse("a class without a name", tree);
            }
            note(trees.getElement(getCurrentPath()), tree);
            return super.visitNewClass(tree, unused);
        }

        private void note(Element called, Tree tree) {
            if (!(called instanceof ExecutableElement method)) {
                refuse("a call that can't be told", tree);
                return;
            }
            String owner = method.getEnclosingElement().toString();
            if (owner.startsWith("PlaceMender")) {
                calls.computeIfAbsent(caller, c -> new HashSet<>()).add(method);
            } else if (!LIBRARY.getOrDefault(owner, Set.of()).contains(method.getSimpleName().toString())) {
                refuse(owner + "." + method.getSimpleName(), tree);
            }
        }

        @Override
        public Void visitThrow(ThrowTree tree, Void unused) {
            refuse("throw", tree);
            return null;
        }

        @Override
        public Void visitTry(TryTree tree, Void unused) {
            refuse("try", tree);
            return null;
        }

        @Override
        public Void visitLambdaExpression(LambdaExpressionTree tree, Void unused) {
            refuse("a lambda", tree);
            return null;
        }

        @Override
        public Void visitMemberReference(MemberReferenceTree tree, Void unused) {
            refuse("a method reference", tree);
            return null;
        }

        @Override
        public Void visitSynchronized(SynchronizedTree tree, Void unused) {
            refuse("synchronized", tree);
            return null;
        }

        @Override
        public Void visitAssert(AssertTree tree, Void unused) {
            refuse("assert", tree);
            return null;
        }
    }
}
