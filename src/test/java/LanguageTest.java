import com.sun.source.tree.BinaryTree;
import com.sun.source.tree.CatchTree;
import com.sun.source.tree.ClassTree;
import com.sun.source.tree.CompilationUnitTree;
import com.sun.source.tree.ExpressionTree;
import com.sun.source.tree.LambdaExpressionTree;
import com.sun.source.tree.MemberReferenceTree;
import com.sun.source.tree.MethodInvocationTree;
import com.sun.source.tree.MethodTree;
import com.sun.source.tree.NewClassTree;
import com.sun.source.tree.ThrowTree;
import com.sun.source.tree.Tree;
import com.sun.source.tree.TryTree;
import com.sun.source.tree.VariableTree;
import com.sun.source.util.JavacTask;
import com.sun.source.util.SourcePositions;
import com.sun.source.util.TreePath;
import com.sun.source.util.TreePathScanner;
import com.sun.source.util.Trees;
import java.io.IOException;
import java.nio.file.Path;
import java.util.ArrayList;
import java.util.HashSet;
import java.util.List;
import java.util.Map;
import java.util.Set;
import java.util.TreeMap;
import java.util.TreeSet;
import javax.lang.model.element.Element;
import javax.lang.model.element.ElementKind;
import javax.lang.model.element.ExecutableElement;
import javax.lang.model.element.Modifier;
import javax.lang.model.type.TypeMirror;
import javax.tools.JavaCompiler;
import javax.tools.StandardJavaFileManager;
import javax.tools.ToolProvider;

/** What the rules 2, 4, 6, 10 and 11 of the language say that can be seen in the source. */
final class LanguageTest {
    private static final Set<String> LIBRARY = Set.of(
            "String.length", "String.charAt", "String.isEmpty", "String.equals", "String.indexOf",
            "String.substring", "String.toCharArray", "StringBuilder.append", "StringBuilder.charAt",
            "StringBuilder.setCharAt", "StringBuilder.setLength", "StringBuilder.deleteCharAt",
            "StringBuilder.reverse", "StringBuilder.length", "StringBuilder.toString", "Math.max", "Math.min");
    private static final Set<String> EXCEPTIONS = Set.of(
            "IllegalStateException", "IllegalArgumentException", "UnsupportedOperationException");
    // The rule says some twelve classes, some sixty lines and some twenty fields.
    private static final int CLASSES = 13;
    private static final int METHOD_LINES = 60;
    private static final int FIELDS = 20;
    private static final int PARAMETERS = 7;
    private static final int CALLS_DEEP = 8;

    private static final Map<String, Set<String>> CALLS = new TreeMap<>();
    private static final Set<String> FACE = new TreeSet<>();

    public static void main(String[] args) throws IOException {
        JavaCompiler compiler = ToolProvider.getSystemJavaCompiler();
        try (StandardJavaFileManager files = compiler.getStandardFileManager(null, null, null)) {
            JavacTask task = (JavacTask) compiler.getTask(null, files, null, List.of("-proc:none"), null,
                    files.getJavaFileObjects(Path.of("src/main/java/TreePaths.java")));
            CompilationUnitTree unit = task.parse().iterator().next();
            task.analyze();
            Reader reader = new Reader(unit, Trees.instance(task));
            reader.scan(unit, null);
            Session.due("classes are some twelve", reader.classes <= CLASSES ? 1 : 0, 1);
        }
        Session.due("methods of the face", FACE.size(), 13);
        for (String method : FACE) {
            int deep = deepest(method);
            Session.due(method + " goes " + deep + " calls deep", deep <= CALLS_DEEP ? 1 : 0, 1);
        }
        Session.end();
    }

    /** How many calls are open at most behind a method, methods that call one another counting as one. */
    private static int deepest(String method) {
        Set<String> together = reached(method);
        together.removeIf(other -> !reached(other).contains(method));
        together.add(method);
        int deepest = 0;
        for (String one : together) {
            for (String called : CALLS.getOrDefault(one, Set.of())) {
                if (!together.contains(called)) {
                    deepest = Math.max(deepest, deepest(called));
                }
            }
        }
        return deepest + 1;
    }

    private static Set<String> reached(String method) {
        Set<String> reached = new HashSet<>();
        List<String> open = new ArrayList<>(List.of(method));
        while (!open.isEmpty()) {
            for (String called : CALLS.getOrDefault(open.remove(open.size() - 1), Set.of())) {
                if (reached.add(called)) {
                    open.add(called);
                }
            }
        }
        return reached;
    }

    /** Goes over the source, says what is outside the rules, and notes which method calls which. */
    private static final class Reader extends TreePathScanner<Void, Void> {
        private final CompilationUnitTree unit;
        private final Trees trees;
        // Empty outside of methods: the object of a field is made by none.
        private String method = "";
        private int throwsHere = 0;
        private int triesHere = 0;
        int classes = 0;

        Reader(CompilationUnitTree unit, Trees trees) {
            this.unit = unit;
            this.trees = trees;
        }

        private static void outside(String what) {
            Session.due(what, "outside the language", "inside it");
        }

        private static String nameOf(Element element) {
            String owner = element.getEnclosingElement().getSimpleName().toString();
            // StringBuilder has some of its methods from a class that no program names.
            return (owner.equals("AbstractStringBuilder") ? "StringBuilder" : owner) + "." + element.getSimpleName();
        }

        private Element element(Tree tree) {
            return trees.getElement(new TreePath(getCurrentPath(), tree));
        }

        private long lines(Tree tree) {
            SourcePositions places = trees.getSourcePositions();
            long begin = unit.getLineMap().getLineNumber(places.getStartPosition(unit, tree));
            return unit.getLineMap().getLineNumber(places.getEndPosition(unit, tree)) - begin + 1;
        }

        @Override
        public Void visitClass(ClassTree tree, Void none) {
            classes++;
            int fields = 0;
            for (Tree member : tree.getMembers()) {
                boolean constant = member instanceof VariableTree field
                        && field.getModifiers().getFlags().contains(Modifier.STATIC);
                if (member instanceof VariableTree && !constant) {
                    fields++;
                }
                if (member.getKind() == Tree.Kind.BLOCK) {
                    outside("a block of " + tree.getSimpleName());
                }
            }
            Session.due(tree.getSimpleName() + " has few fields", fields <= FIELDS ? 1 : 0, 1);
            return super.visitClass(tree, none);
        }

        @Override
        public Void visitMethod(MethodTree tree, Void none) {
            Element element = trees.getElement(getCurrentPath());
            method = nameOf(element);
            CALLS.putIfAbsent(method, new TreeSet<>());
            if (element.getModifiers().contains(Modifier.PUBLIC)) {
                FACE.add(method);
            }
            throwsHere = 0;
            triesHere = 0;
            super.visitMethod(tree, none);
            boolean maker = element.getKind() == ElementKind.CONSTRUCTOR;
            Session.due(method + " has few parameters", tree.getParameters().size() <= PARAMETERS ? 1 : 0, 1);
            Session.due(method + " is short", maker || lines(tree) <= METHOD_LINES ? 1 : 0, 1);
            Session.due(method + " throws and tries", Math.min(throwsHere, triesHere), 0);
            Session.due(method + " throws in a constructor", maker ? throwsHere : 0, 0);
            method = "";
            return null;
        }

        @Override
        public Void visitMethodInvocation(MethodInvocationTree tree, Void none) {
            Element called = element(tree);
            if (called instanceof ExecutableElement) {
                note(called);
            }
            return super.visitMethodInvocation(tree, none);
        }

        private void note(Element called) {
            boolean maker = called.getKind() == ElementKind.CONSTRUCTOR;
            if (trees.getTree(called) != null) {
                CALLS.get(method).add(nameOf(called));
            } else if (!maker && !LIBRARY.contains(nameOf(called))) {
                outside("a call of " + nameOf(called));
            }
        }

        @Override
        public Void visitNewClass(NewClassTree tree, Void none) {
            Element made = element(tree);
            if (trees.getTree(made) != null && !method.isEmpty()) {
                CALLS.get(method).add(nameOf(made));
            }
            return super.visitNewClass(tree, none);
        }

        @Override
        public Void visitThrow(ThrowTree tree, Void none) {
            throwsHere++;
            ExpressionTree thrown = tree.getExpression();
            boolean fine = thrown instanceof NewClassTree made
                    && EXCEPTIONS.contains(made.getIdentifier().toString())
                    && made.getArguments().stream().allMatch(text -> text.getKind() == Tree.Kind.STRING_LITERAL);
            if (!fine) {
                outside(tree.toString());
            }
            return super.visitThrow(tree, none);
        }

        @Override
        public Void visitTry(TryTree tree, Void none) {
            triesHere++;
            if (tree.getFinallyBlock() != null || !tree.getResources().isEmpty()) {
                outside(tree.toString());
            }
            return super.visitTry(tree, none);
        }

        @Override
        public Void visitCatch(CatchTree tree, Void none) {
            if (!EXCEPTIONS.contains(tree.getParameter().getType().toString())) {
                outside(tree.toString());
            }
            return super.visitCatch(tree, none);
        }

        @Override
        public Void visitBinary(BinaryTree tree, Void none) {
            // Neither joined by + nor compared by ==.
            if (isString(tree.getLeftOperand()) || isString(tree.getRightOperand())) {
                outside(tree.toString());
            }
            return super.visitBinary(tree, none);
        }

        private boolean isString(Tree tree) {
            TypeMirror type = trees.getTypeMirror(new TreePath(getCurrentPath(), tree));
            return type != null && type.toString().equals("java.lang.String");
        }

        @Override
        public Void visitLambdaExpression(LambdaExpressionTree tree, Void none) {
            outside(tree.toString());
            return super.visitLambdaExpression(tree, none);
        }

        @Override
        public Void visitMemberReference(MemberReferenceTree tree, Void none) {
            outside(tree.toString());
            return super.visitMemberReference(tree, none);
        }
    }
}
