import com.sun.source.tree.ClassTree;
import com.sun.source.tree.CompilationUnitTree;
import com.sun.source.tree.ImportTree;
import com.sun.source.tree.LineMap;
import com.sun.source.tree.MethodInvocationTree;
import com.sun.source.tree.MethodTree;
import com.sun.source.tree.NewArrayTree;
import com.sun.source.tree.NewClassTree;
import com.sun.source.tree.ThrowTree;
import com.sun.source.tree.Tree;
import com.sun.source.tree.VariableTree;
import com.sun.source.util.JavacTask;
import com.sun.source.util.TreePath;
import com.sun.source.util.TreePathScanner;
import com.sun.source.util.Trees;
import java.io.IOException;
import java.nio.file.Files;
import java.nio.file.Path;
import java.util.ArrayList;
import java.util.EnumSet;
import java.util.LinkedHashMap;
import java.util.List;
import java.util.Map;
import java.util.Set;
import java.util.TreeSet;
import java.util.regex.Pattern;
import javax.lang.model.element.Element;
import javax.lang.model.element.ExecutableElement;
import javax.lang.model.element.Modifier;
import javax.tools.JavaCompiler;
import javax.tools.StandardJavaFileManager;
import javax.tools.ToolProvider;

/**
 * What LANGUAGE.md rules out, seen with the eyes of javac. Where the program needs less than a rule leaves
 * (no try, no cast, no list), the test allows less: whoever needs more looks the rule up and adds it here.
 */
public final class LanguageTest {
    private static final Path PROGRAM = Path.of("src/main/java/ComponentContainer.java");
    private static final int LONGEST_METHOD = 60;
    private static final int MOST_PARAMETERS = 7;
    private static final int MOST_CLASSES = 12;
    private static final int MOST_FIELDS = 20;
    private static final int DEEPEST_CALLS = 8;

    // Rules 2, 6 and 10: no lambda, method reference, try, cast, synchronized or assert among them.
    private static final Set<Tree.Kind> FORMS = EnumSet.of(Tree.Kind.COMPILATION_UNIT, Tree.Kind.IMPORT,
            Tree.Kind.CLASS, Tree.Kind.METHOD, Tree.Kind.MODIFIERS, Tree.Kind.VARIABLE, Tree.Kind.BLOCK,
            Tree.Kind.IF, Tree.Kind.FOR_LOOP, Tree.Kind.ENHANCED_FOR_LOOP, Tree.Kind.RETURN, Tree.Kind.THROW,
            Tree.Kind.EXPRESSION_STATEMENT, Tree.Kind.ASSIGNMENT, Tree.Kind.NEW_CLASS, Tree.Kind.NEW_ARRAY,
            Tree.Kind.METHOD_INVOCATION, Tree.Kind.MEMBER_SELECT, Tree.Kind.ARRAY_ACCESS, Tree.Kind.IDENTIFIER,
            Tree.Kind.PRIMITIVE_TYPE, Tree.Kind.ARRAY_TYPE, Tree.Kind.INT_LITERAL, Tree.Kind.BOOLEAN_LITERAL,
            Tree.Kind.STRING_LITERAL, Tree.Kind.PARENTHESIZED, Tree.Kind.CONDITIONAL_EXPRESSION,
            Tree.Kind.CONDITIONAL_AND, Tree.Kind.CONDITIONAL_OR, Tree.Kind.LOGICAL_COMPLEMENT,
            Tree.Kind.BITWISE_COMPLEMENT, Tree.Kind.UNARY_MINUS, Tree.Kind.PLUS, Tree.Kind.MINUS,
            Tree.Kind.MULTIPLY, Tree.Kind.AND, Tree.Kind.OR, Tree.Kind.LEFT_SHIFT, Tree.Kind.OR_ASSIGNMENT,
            Tree.Kind.PLUS_ASSIGNMENT, Tree.Kind.POSTFIX_INCREMENT, Tree.Kind.POSTFIX_DECREMENT,
            Tree.Kind.EQUAL_TO, Tree.Kind.NOT_EQUAL_TO, Tree.Kind.LESS_THAN, Tree.Kind.LESS_THAN_EQUAL,
            Tree.Kind.GREATER_THAN, Tree.Kind.GREATER_THAN_EQUAL);

    private static final Set<Modifier> MODIFIERS = EnumSet.of(Modifier.PUBLIC, Modifier.PRIVATE, Modifier.STATIC);

    // Rule 3, and rule 4's library.
    private static final Set<String> TYPES = Set.of("int", "boolean", "void", "int[]", "boolean[]", "int[][]");
    private static final Set<String> LIBRARY = Set.of("java.lang.System.arraycopy", "java.util.Arrays.fill");

    // Rule 6, as far as the document names them.
    private static final Set<String> EXCEPTIONS = Set.of("java.lang.IllegalStateException",
            "java.lang.IllegalArgumentException", "java.lang.IndexOutOfBoundsException");

    private final Check check = new Check("LanguageTest");
    private final Map<String, Set<String>> callsOf = new LinkedHashMap<>();
    private final Set<String> publicMethods = new TreeSet<>();
    private int classes = 0;

    public static void main(String[] args) throws IOException {
        LanguageTest test = new LanguageTest();
        test.text();
        test.program();
        test.check.finish();
    }

    // Rule 4: the signs of constants are 1 to 127; here those of the whole file are. Rule 10: texts are not
    // joined by a plus, which javac's tree does not show where both of them are constants.
    private void text() throws IOException {
        int odd = 0;
        for (byte sign : Files.readAllBytes(PROGRAM)) {
            odd += sign > 0 ? 0 : 1;
        }
        check.same("signs outside 1 to 127", odd, 0);
        boolean joins = Pattern.compile("\"\\s*\\+|\\+\\s*\"").matcher(Files.readString(PROGRAM)).find();
        check.same("texts are joined by a plus", joins, false);
    }

    private void program() throws IOException {
        JavaCompiler compiler = ToolProvider.getSystemJavaCompiler();
        try (StandardJavaFileManager files = compiler.getStandardFileManager(null, null, null)) {
            JavacTask task = (JavacTask) compiler.getTask(null, files, null, List.of("-proc:none"), null,
                    files.getJavaFileObjects(PROGRAM));
            List<CompilationUnitTree> units = new ArrayList<>();
            task.parse().forEach(units::add);
            task.analyze();
            check.same("files", units.size(), 1);
            CompilationUnitTree unit = units.get(0);
            check.same("a package line", unit.getPackage() != null, false);
            check.same("classes beside the public one", unit.getTypeDecls().size(), 1);
            new Reader(Trees.instance(task), unit).scan(unit, null);
        }
        check.same("classes, some twelve", classes <= MOST_CLASSES, true);
        names();
        recursion();
    }

    // Rule 1: no private method bears the name of a public one; here no method inside does.
    private void names() {
        for (String method : callsOf.keySet()) {
            boolean isPublic = publicMethods.contains(method);
            String inTheFace = "ComponentContainer" + method.substring(method.lastIndexOf('.'));
            boolean bearsPublicName = !isPublic && !method.endsWith("<init>") && publicMethods.contains(inTheFace);
            check.same(method + " bears the name of a public method", bearsPublicName, false);
        }
    }

    // Rules 8 and 11: who calls one another, and how deep the other calls go.
    private void recursion() {
        Set<String> inCircles = new TreeSet<>();
        for (String method : callsOf.keySet()) {
            if (reachedFrom(method).contains(method)) {
                inCircles.add(method);
                check.same(method + " calls itself and is private", publicMethods.contains(method), false);
            }
        }
        check.same("methods that call one another", inCircles.toString(), "[ComponentContainer.construct, "
                + "ComponentContainer.inject, ComponentContainer.obtain, ComponentContainer.obtainEach, "
                + "ComponentContainer.request, ComponentContainer.tryConstruction, "
                + "ComponentContainer.tryDependency, ComponentContainer.tryEach]");
        for (String method : callsOf.keySet()) {
            int deep = depthOf(method, inCircles);
            check.same(method + ": calls at most eight deep", deep <= DEEPEST_CALLS, true);
        }
    }

    private Set<String> reachedFrom(String method) {
        Set<String> reached = new TreeSet<>();
        List<String> open = new ArrayList<>(callsOf.get(method));
        while (!open.isEmpty()) {
            String next = open.remove(open.size() - 1);
            if (reached.add(next)) {
                open.addAll(callsOf.getOrDefault(next, Set.of()));
            }
        }
        return reached;
    }

    // A method that stands in a circle counts once; what it calls outside the circle counts on.
    private int depthOf(String method, Set<String> inCircles) {
        Set<String> called = callsOf.getOrDefault(method, Set.of());
        if (inCircles.contains(method)) {
            called = reachedFrom(method);
        }
        int deepest = 0;
        for (String next : called) {
            boolean sameCircle = inCircles.contains(method) && inCircles.contains(next);
            deepest = Math.max(deepest, sameCircle ? 0 : depthOf(next, inCircles));
        }
        return deepest + 1;
    }

    private static String nameOf(Element member) {
        return member.getEnclosingElement() + "." + member.getSimpleName();
    }

    /** Goes through the program's tree once. */
    private final class Reader extends TreePathScanner<Void, Void> {
        private final Trees trees;
        private final CompilationUnitTree unit;
        private final LineMap lines;

        Reader(Trees trees, CompilationUnitTree unit) {
            this.trees = trees;
            this.unit = unit;
            this.lines = unit.getLineMap();
        }

        private long lineAt(long position) {
            return lines.getLineNumber(position);
        }

        private long firstLine(Tree tree) {
            return lineAt(trees.getSourcePositions().getStartPosition(unit, tree));
        }

        private String at(Tree tree) {
            return "line " + firstLine(tree) + ": ";
        }

        private Element elementOf(Tree tree) {
            return trees.getElement(new TreePath(getCurrentPath(), tree));
        }

        private boolean isInside(Tree.Kind kind) {
            for (TreePath path = getCurrentPath(); path != null; path = path.getParentPath()) {
                if (path.getLeaf().getKind() == kind) {
                    return true;
                }
            }
            return false;
        }

        @Override
        public Void scan(Tree tree, Void nothing) {
            if (tree != null && !FORMS.contains(tree.getKind())) {
                check.same(at(tree) + tree.getKind() + " is not among the forms", true, false);
            }
            return super.scan(tree, nothing);
        }

        @Override
        public Void visitImport(ImportTree tree, Void nothing) {
            check.same("import", tree.getQualifiedIdentifier().toString(), "java.util.Arrays");
            return super.visitImport(tree, nothing);
        }

        @Override
        public Void visitClass(ClassTree tree, Void nothing) {
            classes++;
            boolean isFace = getCurrentPath().getParentPath().getLeaf() == unit;
            Set<Modifier> due = isFace ? Set.of(Modifier.PUBLIC, Modifier.FINAL)
                    : Set.of(Modifier.PRIVATE, Modifier.STATIC, Modifier.FINAL);
            check.same(at(tree) + "the class is as it should be", tree.getModifiers().getFlags().equals(due), true);
            check.same(at(tree) + "it is below no class", tree.getExtendsClause() == null, true);
            int fields = 0;
            for (Tree member : tree.getMembers()) {
                check.same(at(member) + "a block outside of methods", member.getKind() == Tree.Kind.BLOCK, false);
                boolean isField = member.getKind() == Tree.Kind.VARIABLE;
                fields += isField && !isStatic((VariableTree) member) ? 1 : 0;
            }
            check.same(at(tree) + "some twenty fields", fields <= MOST_FIELDS, true);
            return super.visitClass(tree, nothing);
        }

        private boolean isStatic(VariableTree tree) {
            return tree.getModifiers().getFlags().contains(Modifier.STATIC);
        }

        @Override
        public Void visitVariable(VariableTree tree, Void nothing) {
            if (isStatic(tree)) {
                boolean isFinal = tree.getModifiers().getFlags().contains(Modifier.FINAL);
                check.same(at(tree) + "a static field is final", isFinal, true);
                boolean isNumber = tree.getType().toString().equals("int");
                boolean isWrittenOut = tree.getInitializer() instanceof NewArrayTree
                        && ((NewArrayTree) tree.getInitializer()).getInitializers() != null;
                check.same(at(tree) + "a number or a written array", isNumber || isWrittenOut, true);
            }
            type(tree, tree.getType());
            return super.visitVariable(tree, nothing);
        }

        private void type(Tree tree, Tree type) {
            Element own = elementOf(type);
            boolean isOwn = own != null && own.toString().startsWith("ComponentContainer.");
            check.same(at(tree) + type + " is a type of rule 3", isOwn || TYPES.contains(type.toString()), true);
        }

        @Override
        public Void visitMethod(MethodTree tree, Void nothing) {
            String name = nameOf(elementOf(tree));
            boolean isNew = callsOf.putIfAbsent(name, new TreeSet<>()) == null;
            check.same(at(tree) + "the first method of its name", isNew, true);
            Set<Modifier> modifiers = tree.getModifiers().getFlags();
            check.same(at(tree) + "modifiers", MODIFIERS.containsAll(modifiers), true);
            if (modifiers.contains(Modifier.PUBLIC)) {
                publicMethods.add(name);
            }
            long last = lineAt(trees.getSourcePositions().getEndPosition(unit, tree));
            check.same(at(tree) + "some sixty lines", last - firstLine(tree) < LONGEST_METHOD, true);
            check.same(at(tree) + "parameters", tree.getParameters().size() <= MOST_PARAMETERS, true);
            if (tree.getReturnType() != null) {
                type(tree, tree.getReturnType());
            }
            return super.visitMethod(tree, nothing);
        }

        @Override
        public Void visitMethodInvocation(MethodInvocationTree tree, Void nothing) {
            ExecutableElement called = (ExecutableElement) elementOf(tree.getMethodSelect());
            String name = nameOf(called);
            boolean isConstructorOfObject = name.equals("java.lang.Object.<init>");
            if (name.startsWith("java.") && !isConstructorOfObject) {
                check.same(at(tree) + name + " is in the library of rule 4", LIBRARY.contains(name), true);
            } else if (!isConstructorOfObject) {
                callsOf.get(methodAround()).add(name);
            }
            return super.visitMethodInvocation(tree, nothing);
        }

        private String methodAround() {
            TreePath path = getCurrentPath();
            while (path.getLeaf().getKind() != Tree.Kind.METHOD) {
                path = path.getParentPath();
            }
            return nameOf(trees.getElement(path));
        }

        @Override
        public Void visitThrow(ThrowTree tree, Void nothing) {
            boolean isNew = tree.getExpression() instanceof NewClassTree;
            check.same(at(tree) + "throws what it makes", isNew, true);
            check.same(at(tree) + "no throw in a constructor", methodAround().endsWith(".<init>"), false);
            return super.visitThrow(tree, nothing);
        }

        // No call makes an object but for the exception that it throws: the rest is made with the container.
        @Override
        public Void visitNewClass(NewClassTree tree, Void nothing) {
            String name = elementOf(tree.getIdentifier()).toString();
            if (isInside(Tree.Kind.THROW)) {
                boolean isText = tree.getArguments().size() == 1
                        && tree.getArguments().get(0).getKind() == Tree.Kind.STRING_LITERAL;
                check.same(at(tree) + name + " may be thrown", EXCEPTIONS.contains(name) && isText, true);
            } else {
                check.same(at(tree) + name + " is made with the container", isInside(Tree.Kind.METHOD), false);
            }
            check.same(at(tree) + "no anonymous class", tree.getClassBody() == null, true);
            return super.visitNewClass(tree, nothing);
        }

        @Override
        public Void visitNewArray(NewArrayTree tree, Void nothing) {
            check.same(at(tree) + "the row is made with the container", isInside(Tree.Kind.METHOD), false);
            return super.visitNewArray(tree, nothing);
        }
    }
}
