import com.sun.source.tree.AssertTree;
import com.sun.source.tree.BinaryTree;
import com.sun.source.tree.BlockTree;
import com.sun.source.tree.ClassTree;
import com.sun.source.tree.CompilationUnitTree;
import com.sun.source.tree.CompoundAssignmentTree;
import com.sun.source.tree.DoWhileLoopTree;
import com.sun.source.tree.ForLoopTree;
import com.sun.source.tree.ImportTree;
import com.sun.source.tree.LambdaExpressionTree;
import com.sun.source.tree.LiteralTree;
import com.sun.source.tree.MemberReferenceTree;
import com.sun.source.tree.MethodInvocationTree;
import com.sun.source.tree.MethodTree;
import com.sun.source.tree.NewClassTree;
import com.sun.source.tree.SynchronizedTree;
import com.sun.source.tree.ThrowTree;
import com.sun.source.tree.Tree;
import com.sun.source.tree.TryTree;
import com.sun.source.tree.VariableTree;
import com.sun.source.tree.WhileLoopTree;
import com.sun.source.util.JavacTask;
import com.sun.source.util.SourcePositions;
import com.sun.source.util.TreePath;
import com.sun.source.util.TreePathScanner;
import com.sun.source.util.Trees;
import java.io.IOException;
import java.util.HashMap;
import java.util.LinkedHashSet;
import java.util.List;
import java.util.Map;
import java.util.Set;
import java.util.stream.Collectors;
import javax.lang.model.element.Element;
import javax.lang.model.element.ElementKind;
import javax.lang.model.element.ExecutableElement;
import javax.lang.model.element.Modifier;
import javax.lang.model.type.ArrayType;
import javax.lang.model.type.TypeKind;
import javax.lang.model.type.TypeMirror;
import javax.tools.JavaCompiler;
import javax.tools.JavaFileObject;
import javax.tools.StandardJavaFileManager;
import javax.tools.ToolProvider;

/** The rules of LANGUAGE.md that can be seen in the program's tree, each told with its number. */
public final class LanguageTest {
    private static final String PROGRAM = "src/main/java/TonePlates.java";
    private static final int MOST_LINES = 60;
    private static final int MOST_PARAMETERS = 7;
    private static final int MOST_CLASSES = 12;
    private static final int MOST_FIELDS = 20;
    private static final int MOST_DEEP = 8;

    /** Of rules 4 and 6: what the program uses of the library, and what it may throw. */
    private static final Set<String> LIBRARY = Set.of(
            "java.lang.String.length", "java.lang.String.charAt", "java.lang.String.isEmpty",
            "java.lang.Math.min", "java.lang.Math.max", "java.lang.Math.abs", "java.lang.Math.floorMod",
            "java.lang.Math.floorDiv", "java.lang.Integer.bitCount", "java.lang.System.arraycopy",
            "java.util.Arrays.fill", "java.util.Arrays.copyOf", "java.util.Arrays.copyOfRange");
    private static final Set<String> THROWN = Set.of("IllegalStateException", "IllegalArgumentException",
            "IndexOutOfBoundsException", "ArithmeticException", "UnsupportedOperationException",
            "NoSuchElementException", "RuntimeException");

    private final CompilationUnitTree file;
    private final Trees trees;
    private final Map<ExecutableElement, Set<ExecutableElement>> calls = new HashMap<>();
    private int classes = 0;

    private LanguageTest(CompilationUnitTree file, Trees trees) {
        this.file = file;
        this.trees = trees;
    }

    public static void main(String[] args) throws IOException {
        JavaCompiler compiler = ToolProvider.getSystemJavaCompiler();
        try (StandardJavaFileManager files = compiler.getStandardFileManager(null, null, null)) {
            Iterable<? extends JavaFileObject> program = files.getJavaFileObjects(PROGRAM);
            JavacTask task = (JavacTask) compiler.getTask(null, files, null, List.of(), null, program);
            CompilationUnitTree file = task.parse().iterator().next();
            task.analyze();
            new LanguageTest(file, Trees.instance(task)).look();
        }
        Check.end("LanguageTest");
    }

    private void look() {
        holds("1", "one class in the file, without a package", file,
                file.getPackageName() == null && file.getTypeDecls().size() == 1);
        new Looker().scan(file, null);
        holds("11", "at most some twelve classes", file, classes <= MOST_CLASSES);
        Map<ExecutableElement, Integer> known = new HashMap<>();
        for (ExecutableElement method : calls.keySet()) {
            int deep = depth(method, known);
            Check.count(deep <= MOST_DEEP, "rule 11: " + method + " goes " + deep + " calls deep");
        }
        theRecursionIsTheParsersAlone();
    }

    private void theRecursionIsTheParsersAlone() {
        Set<String> names = calls.keySet().stream().filter(method -> reached(method).contains(method))
                .map(method -> method.getSimpleName().toString()).collect(Collectors.toSet());
        Check.same("rule 8: methods that come back to themselves", Set.of("readSum", "readTerm", "readFactor"),
                () -> names);
    }

    private Set<ExecutableElement> reached(ExecutableElement method) {
        Set<ExecutableElement> all = new LinkedHashSet<>();
        collect(method, all);
        return all;
    }

    private void collect(ExecutableElement method, Set<ExecutableElement> all) {
        for (ExecutableElement called : calls.getOrDefault(method, Set.of())) {
            if (all.add(called)) {
                collect(called, all);
            }
        }
    }

    /** How many calls stand open at most below and with this one; those of a recursion do not count. */
    private int depth(ExecutableElement method, Map<ExecutableElement, Integer> known) {
        Integer before = known.get(method);
        if (before != null) {
            return before;
        }
        Set<ExecutableElement> below = reached(method);
        boolean isRecursion = below.contains(method);
        int deepest = 0;
        for (ExecutableElement called : isRecursion ? below : calls.getOrDefault(method, Set.of())) {
            if (!isRecursion || !reached(called).contains(method)) {
                deepest = Math.max(deepest, depth(called, known));
            }
        }
        known.put(method, deepest + (isRecursion ? 0 : 1));
        return known.get(method);
    }

    private void holds(String rule, String what, Tree where, boolean isSo) {
        long line = file.getLineMap().getLineNumber(trees.getSourcePositions().getStartPosition(file, where));
        Check.count(isSo, "rule " + rule + ", line " + line + ": not so: " + what);
    }

    private static boolean isOwn(Element element) {
        Element outermost = element;
        while (outermost.getEnclosingElement() != null
                && outermost.getEnclosingElement().getKind() != ElementKind.PACKAGE) {
            outermost = outermost.getEnclosingElement();
        }
        return outermost.getSimpleName().contentEquals("TonePlates");
    }

    private final class Looker extends TreePathScanner<Void, Void> {
        private ExecutableElement method;

        @Override
        public Void visitImport(ImportTree tree, Void none) {
            holds("4", "an import of what the library's list has", tree, Set.of("java.util.Arrays",
                    "java.util.NoSuchElementException", "java.util.ArrayList", "java.util.List")
                    .contains(tree.getQualifiedIdentifier().toString()));
            return null;
        }

        @Override
        public Void visitClass(ClassTree tree, Void none) {
            classes++;
            Set<Modifier> flags = tree.getModifiers().getFlags();
            boolean isOutermost = getCurrentPath().getParentPath().getLeaf() == file;
            holds("1", "classes inside are static, and not to be seen", tree,
                    isOutermost || flags.contains(Modifier.STATIC) && !flags.contains(Modifier.PUBLIC)
                            && !flags.contains(Modifier.PROTECTED));
            long fields = tree.getMembers().stream().filter(member -> member instanceof VariableTree
                    && !((VariableTree) member).getModifiers().getFlags().contains(Modifier.STATIC)).count();
            holds("11", "a class has some twenty fields", tree, fields <= MOST_FIELDS);
            holds("5", "no initialiser block", tree,
                    tree.getMembers().stream().noneMatch(member -> member instanceof BlockTree));
            return super.visitClass(tree, none);
        }

        @Override
        public Void visitMethod(MethodTree tree, Void none) {
            method = (ExecutableElement) trees.getElement(getCurrentPath());
            calls.putIfAbsent(method, new LinkedHashSet<>());
            holds("11", "at most seven parameters", tree, tree.getParameters().size() <= MOST_PARAMETERS);
            holds("11", "some sixty lines", tree, lines(tree) <= MOST_LINES);
            super.visitMethod(tree, none);
            method = null;
            return null;
        }

        private long lines(Tree tree) {
            SourcePositions positions = trees.getSourcePositions();
            return file.getLineMap().getLineNumber(positions.getEndPosition(file, tree))
                    - file.getLineMap().getLineNumber(positions.getStartPosition(file, tree)) + 1;
        }

        @Override
        public Void visitVariable(VariableTree tree, Void none) {
            Element variable = trees.getElement(getCurrentPath());
            holds("3", "a type that the rule lists", tree, isListed(variable.asType()));
            if (variable.getKind() == ElementKind.FIELD && variable.getModifiers().contains(Modifier.STATIC)) {
                holds("5", "a static field is final, a number, boolean, char or String", tree,
                        variable.getModifiers().contains(Modifier.FINAL)
                                && Set.of("int", "long", "boolean", "char", "java.lang.String")
                                        .contains(variable.asType().toString()));
            }
            return super.visitVariable(tree, none);
        }

        private boolean isListed(TypeMirror type) {
            if (type.getKind() == TypeKind.ARRAY) {
                TypeMirror part = ((ArrayType) type).getComponentType();
                return part.getKind() == TypeKind.ARRAY
                        ? ((ArrayType) part).getComponentType().getKind().isPrimitive() : isListed(part);
            }
            return type.getKind().isPrimitive() || type.toString().startsWith("TonePlates.")
                    || Set.of("java.lang.String", "java.lang.StringBuilder").contains(type.toString());
        }

        @Override
        public Void visitMethodInvocation(MethodInvocationTree tree, Void none) {
            ExecutableElement called = (ExecutableElement) trees.getElement(getCurrentPath());
            String name = called.getEnclosingElement() + "." + called.getSimpleName();
            boolean isSuper = tree.getMethodSelect().toString().equals("super");
            holds("4", name + " stands in the library's list", tree,
                    isSuper || isOwn(called) || LIBRARY.contains(name));
            if (name.startsWith("java.lang.Math.")) {
                holds("3", "no Math on doubles", tree, called.getParameters().stream().allMatch(
                        one -> Set.of("int", "long").contains(one.asType().toString())));
            }
            if (method != null && !isSuper) {
                calls.get(method).add(called);
            }
            return super.visitMethodInvocation(tree, none);
        }

        @Override
        public Void visitNewClass(NewClassTree tree, Void none) {
            ExecutableElement made = (ExecutableElement) trees.getElement(getCurrentPath());
            boolean isThrown = getCurrentPath().getParentPath().getLeaf() instanceof ThrowTree;
            holds("4", "an object of a class of the file", tree, isThrown || isOwn(made));
            if (method != null && isOwn(made)) {
                calls.get(method).add(made);
            }
            return super.visitNewClass(tree, none);
        }

        @Override
        public Void visitThrow(ThrowTree tree, Void none) {
            holds("6", "throw new E() or E(\"a written text\")", tree,
                    tree.getExpression() instanceof NewClassTree
                            && isPlain((NewClassTree) tree.getExpression()));
            holds("6", "no throw in a constructor", tree,
                    method != null && method.getKind() != ElementKind.CONSTRUCTOR);
            return super.visitThrow(tree, none);
        }

        private boolean isPlain(NewClassTree made) {
            return THROWN.contains(made.getIdentifier().toString()) && made.getArguments().size() <= 1
                    && made.getArguments().stream().allMatch(one -> one instanceof LiteralTree);
        }

        @Override
        public Void visitLiteral(LiteralTree tree, Void none) {
            if (tree.getValue() instanceof String) {
                holds("4", "the signs of a constant are 1 to 127", tree,
                        ((String) tree.getValue()).chars().allMatch(sign -> sign >= 1 && sign <= 127));
            }
            return null;
        }

        @Override
        public Void visitBinary(BinaryTree tree, Void none) {
            boolean isText = isText(tree.getLeftOperand()) || isText(tree.getRightOperand());
            holds("10", "texts are neither joined by + nor compared by == or !=", tree, !isText);
            return super.visitBinary(tree, none);
        }

        @Override
        public Void visitCompoundAssignment(CompoundAssignmentTree tree, Void none) {
            holds("10", "no text is joined by +=", tree, !isText(tree.getVariable()));
            return super.visitCompoundAssignment(tree, none);
        }

        private boolean isText(Tree tree) {
            TypeMirror type = trees.getTypeMirror(new TreePath(getCurrentPath(), tree));
            return type != null && type.toString().equals("java.lang.String");
        }

        @Override
        public Void visitWhileLoop(WhileLoopTree tree, Void none) {
            holds("9", "a loop's end can be seen", tree, !(tree.getCondition().toString().equals("(true)")));
            return super.visitWhileLoop(tree, none);
        }

        @Override
        public Void visitDoWhileLoop(DoWhileLoopTree tree, Void none) {
            holds("9", "a loop's end can be seen", tree, !(tree.getCondition().toString().equals("(true)")));
            return super.visitDoWhileLoop(tree, none);
        }

        @Override
        public Void visitForLoop(ForLoopTree tree, Void none) {
            holds("9", "a loop's end can be seen", tree, tree.getCondition() != null);
            return super.visitForLoop(tree, none);
        }

        @Override
        public Void visitTry(TryTree tree, Void none) {
            holds("6", "no try: the program needs none", tree, false);
            return super.visitTry(tree, none);
        }

        @Override
        public Void visitLambdaExpression(LambdaExpressionTree tree, Void none) {
            holds("2", "no lambda", tree, false);
            return null;
        }

        @Override
        public Void visitMemberReference(MemberReferenceTree tree, Void none) {
            holds("2", "no method reference", tree, false);
            return null;
        }

        @Override
        public Void visitAssert(AssertTree tree, Void none) {
            holds("6", "no assert", tree, false);
            return null;
        }

        @Override
        public Void visitSynchronized(SynchronizedTree tree, Void none) {
            holds("6", "no synchronized", tree, false);
            return null;
        }
    }
}
