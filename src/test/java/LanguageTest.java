import com.sun.source.tree.BlockTree;
import com.sun.source.tree.ClassTree;
import com.sun.source.tree.CompilationUnitTree;
import com.sun.source.tree.DoWhileLoopTree;
import com.sun.source.tree.ForLoopTree;
import com.sun.source.tree.IdentifierTree;
import com.sun.source.tree.MemberSelectTree;
import com.sun.source.tree.MethodInvocationTree;
import com.sun.source.tree.MethodTree;
import com.sun.source.tree.NewClassTree;
import com.sun.source.tree.Tree;
import com.sun.source.tree.WhileLoopTree;
import com.sun.source.util.JavacTask;
import com.sun.source.util.TreePathScanner;
import com.sun.source.util.Trees;
import java.io.IOException;
import java.nio.file.Path;
import java.util.ArrayDeque;
import java.util.Deque;
import java.util.EnumSet;
import java.util.HashMap;
import java.util.HashSet;
import java.util.Map;
import java.util.Set;
import javax.lang.model.element.Element;
import javax.lang.model.element.ElementKind;
import javax.lang.model.element.ExecutableElement;
import javax.lang.model.element.Modifier;
import javax.lang.model.element.TypeElement;
import javax.lang.model.element.VariableElement;
import javax.lang.model.util.ElementFilter;
import javax.tools.JavaCompiler;
import javax.tools.StandardJavaFileManager;
import javax.tools.ToolProvider;

/** The rules of LANGUAGE.md that can be read off the file, by their numbers. */
public final class LanguageTest {
    private static final Path FILE = Path.of("src/main/java/SealedWire.java");

    private static final Set<Tree.Kind> RULED_OUT = EnumSet.of(Tree.Kind.LAMBDA_EXPRESSION,
        Tree.Kind.MEMBER_REFERENCE, Tree.Kind.THROW, Tree.Kind.TRY, Tree.Kind.CATCH, Tree.Kind.SYNCHRONIZED,
        Tree.Kind.ASSERT, Tree.Kind.IMPORT, Tree.Kind.PACKAGE);

    // The class needs less of the library than it may use: what else is allowed is added when it is needed.
    private static final Set<String> LIBRARY = Set.of("System", "System.arraycopy", "Integer",
        "Integer.rotateLeft", "Integer.rotateRight", "Integer.reverseBytes");

    private static final Set<String> CONSTANTS = Set.of("int", "long", "boolean", "char", "java.lang.String",
        "int[]", "long[]", "char[]", "byte[]");

    private static final int MOST_CLASSES = 12, MOST_FIELDS = 20, MOST_PARAMETERS = 7, MOST_LINES = 60;
    private static final int DEEPEST = 8;

    // What a method calls; a class stands here for what its fields begin with, which its constructors call.
    private final Map<Element, Set<Element>> calls = new HashMap<>();
    private final Map<Element, Integer> depths = new HashMap<>();
    private final Deque<Element> underWay = new ArrayDeque<>();
    private final Set<String> face = new HashSet<>();
    private CompilationUnitTree unit;
    private Trees trees;
    private int classes;

    public static void main(String[] args) throws IOException {
        LanguageTest test = new LanguageTest();
        test.readFile();
        test.dueDepths();
        Check.end();
    }

    private static void due(String rule, boolean kept) {
        Check.due(rule + ": kept", kept ? 1 : 0, 1);
    }

    private void readFile() throws IOException {
        JavaCompiler compiler = ToolProvider.getSystemJavaCompiler();
        try (StandardJavaFileManager files = compiler.getStandardFileManager(null, null, null)) {
            JavacTask task = (JavacTask) compiler.getTask(null, files, null, null, null,
                files.getJavaFileObjects(FILE));
            unit = task.parse().iterator().next();
            task.analyze();
            trees = Trees.instance(task);
            new Reader().scan(unit, null);
        }
        due("rule 11, at most " + MOST_CLASSES + " classes, there are " + classes, classes <= MOST_CLASSES);
    }

    private void dueDepths() {
        int deepest = 0;
        for (Element method : calls.keySet()) {
            deepest = Math.max(deepest, depth(method));
        }
        due("rule 11, calls at most " + DEEPEST + " deep, they go " + deepest, deepest <= DEEPEST);
        // So few would tell that the calls were not read at all.
        due("calls were found", deepest > 3);
    }

    /** How many calls stand open at once, this one among them. */
    private int depth(Element method) {
        Integer known = depths.get(method);
        if (known != null) {
            return known;
        }
        boolean again = underWay.contains(method);
        due("rule 8, no recursion in " + told(method), !again);
        if (again) {
            return 0;
        }
        underWay.push(method);
        int below = 0;
        for (Element called : calls.getOrDefault(method, Set.of())) {
            below = Math.max(below, depth(called));
        }
        underWay.pop();
        int depth = method instanceof TypeElement ? below : below + 1;
        depths.put(method, depth);
        return depth;
    }

    private static String told(Element element) {
        return element.getEnclosingElement().getSimpleName() + "." + element.getSimpleName();
    }

    private static boolean isOwn(Element type) {
        return type instanceof TypeElement && type.toString().startsWith("SealedWire");
    }

    private static boolean is(Element element, Modifier modifier) {
        return element.getModifiers().contains(modifier);
    }

    private final class Reader extends TreePathScanner<Void, Element> {
        private Element here() {
            return trees.getElement(getCurrentPath());
        }

        @Override
        public Void scan(Tree tree, Element within) {
            if (tree != null) {
                due("rules 2, 4 and 6, no " + tree.getKind(), !RULED_OUT.contains(tree.getKind()));
            }
            return super.scan(tree, within);
        }

        @Override
        public Void visitClass(ClassTree tree, Element within) {
            TypeElement type = (TypeElement) here();
            classes++;
            if (within == null) {
                readFace(type);
            } else {
                due("rule 2, " + type + " is static and stands in the class itself",
                    is(type, Modifier.STATIC) && within instanceof TypeElement);
            }
            dueFields(type);
            calls.put(type, new HashSet<>());
            return super.visitClass(tree, type);
        }

        private void readFace(TypeElement type) {
            for (ExecutableElement method : ElementFilter.methodsIn(type.getEnclosedElements())) {
                if (is(method, Modifier.PUBLIC)) {
                    face.add(method.getSimpleName().toString());
                }
            }
        }

        private void dueFields(TypeElement type) {
            int fields = 0;
            for (VariableElement field : ElementFilter.fieldsIn(type.getEnclosedElements())) {
                if (is(field, Modifier.STATIC)) {
                    due("rule 5, " + told(field) + " is final", is(field, Modifier.FINAL));
                    due("rule 5, " + told(field) + " is a constant", CONSTANTS.contains(field.asType().toString()));
                } else {
                    fields++;
                }
            }
            due("rule 11, fields of " + type + ", there are " + fields, fields <= MOST_FIELDS);
        }

        @Override
        public Void visitBlock(BlockTree tree, Element within) {
            due("rule 5, no static block", !tree.isStatic());
            return super.visitBlock(tree, within);
        }

        @Override
        public Void visitMethod(MethodTree tree, Element within) {
            Element method = here();
            calls.put(method, new HashSet<>());
            if (method.getKind() == ElementKind.CONSTRUCTOR) {
                calls.get(method).add(within);
            }
            if (is(method, Modifier.PRIVATE)) {
                due("rule 1, the name of private " + told(method), !face.contains(method.getSimpleName().toString()));
            }
            due("rule 11, parameters of " + told(method), tree.getParameters().size() <= MOST_PARAMETERS);
            long lines = lineOf(trees.getSourcePositions().getEndPosition(unit, tree))
                - lineOf(trees.getSourcePositions().getStartPosition(unit, tree)) + 1;
            due("rule 11, lines of " + told(method) + ", there are " + lines, lines <= MOST_LINES);
            return super.visitMethod(tree, method);
        }

        /** The compiler's own constructors have no place in the file. */
        private long lineOf(long position) {
            return position < 0 ? 0 : unit.getLineMap().getLineNumber(position);
        }

        @Override
        public Void visitForLoop(ForLoopTree tree, Element within) {
            due("rule 9, a bound in " + told(within), tree.getCondition() != null);
            return super.visitForLoop(tree, within);
        }

        // The class does with counted loops alone, whose ends are the easiest to see.
        @Override
        public Void visitWhileLoop(WhileLoopTree tree, Element within) {
            due("rule 9, only loops with for in " + told(within), false);
            return super.visitWhileLoop(tree, within);
        }

        @Override
        public Void visitDoWhileLoop(DoWhileLoopTree tree, Element within) {
            due("rule 9, only loops with for in " + told(within), false);
            return super.visitDoWhileLoop(tree, within);
        }

        @Override
        public Void visitMethodInvocation(MethodInvocationTree tree, Element within) {
            Element called = here();
            calls.get(within).add(called);
            if (!isOwn(called.getEnclosingElement()) && called.getKind() != ElementKind.CONSTRUCTOR) {
                due("rule 4, of the library " + told(called), LIBRARY.contains(told(called)));
            }
            return super.visitMethodInvocation(tree, within);
        }

        @Override
        public Void visitNewClass(NewClassTree tree, Element within) {
            Element made = here();
            due("rule 2, no class without a name", tree.getClassBody() == null);
            due("rule 4, makes " + told(made), isOwn(made.getEnclosingElement()));
            calls.get(within).add(made);
            return super.visitNewClass(tree, within);
        }

        @Override
        public Void visitIdentifier(IdentifierTree tree, Element within) {
            dueType(here());
            return super.visitIdentifier(tree, within);
        }

        @Override
        public Void visitMemberSelect(MemberSelectTree tree, Element within) {
            dueType(here());
            return super.visitMemberSelect(tree, within);
        }

        private void dueType(Element element) {
            if (element instanceof TypeElement && !isOwn(element)) {
                String name = element.getSimpleName().toString();
                due("rules 3 and 4, the type " + name, LIBRARY.contains(name));
            }
        }
    }
}
