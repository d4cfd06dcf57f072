import com.sun.source.tree.*;
import com.sun.source.util.JavacTask;
import com.sun.source.util.TreePathScanner;
import com.sun.source.util.Trees;
import java.nio.charset.StandardCharsets;
import java.nio.file.Files;
import java.nio.file.Path;
import java.util.ArrayDeque;
import java.util.Deque;
import java.util.HashMap;
import java.util.HashSet;
import java.util.List;
import java.util.Map;
import java.util.Set;
import javax.lang.model.element.Element;
import javax.lang.model.element.ElementKind;
import javax.lang.model.element.ExecutableElement;
import javax.lang.model.element.Modifier;
import javax.lang.model.element.TypeElement;
import javax.lang.model.util.Elements;
import javax.tools.JavaCompiler;
import javax.tools.StandardJavaFileManager;
import javax.tools.ToolProvider;

/**
 * The rules of ../shared/LANGUAGE.md, by their numbers, looked for in the compiler's tree of the class. What no tree shows
 * (rules 7 and 13, the ends of loops but for those without a condition) is left to the other tests and to reading.
 */
final class LanguageTest extends TreePathScanner<Void, Void> {
    private static final Set<Tree.Kind> NOT_IN_IT = Set.of(Tree.Kind.THROW, Tree.Kind.TRY, Tree.Kind.CATCH,
        Tree.Kind.SYNCHRONIZED, Tree.Kind.ASSERT, Tree.Kind.LAMBDA_EXPRESSION, Tree.Kind.MEMBER_REFERENCE,
        Tree.Kind.ANNOTATION, Tree.Kind.PACKAGE, Tree.Kind.DOUBLE_LITERAL, Tree.Kind.FLOAT_LITERAL);
    private static final Set<String> IMPORTS = Set.of("java.util.Arrays", "java.util.ArrayList", "java.util.List",
        "java.util.Iterator");
    private static final Set<String> LIBRARY = Set.of("System.arraycopy", "Arrays.copyOf", "Arrays.copyOfRange",
        "Arrays.fill", "String.length", "String.charAt", "String.isEmpty", "String.equals", "String.indexOf",
        "String.substring", "String.toCharArray", "StringBuilder.append", "StringBuilder.charAt",
        "StringBuilder.setCharAt", "StringBuilder.setLength", "StringBuilder.deleteCharAt", "StringBuilder.reverse",
        "StringBuilder.length", "StringBuilder.toString", "ArrayList.add", "ArrayList.get", "ArrayList.set",
        "ArrayList.remove", "ArrayList.size", "ArrayList.isEmpty", "ArrayList.clear", "List.add", "List.get", "List.set",
        "List.remove", "List.size", "List.isEmpty", "List.clear", "List.of", "Integer.compare", "Integer.max",
        "Integer.min", "Integer.bitCount", "Long.compare", "Long.max", "Long.min", "Long.bitCount", "Math.abs",
        "Math.max", "Math.min", "Math.floorDiv", "Math.floorMod", "Object.<init>", "Array.clone");
    private static final Set<String> TYPES = Set.of("int", "long", "short", "byte", "char", "boolean", "void", "String",
        "StringBuilder", "Integer", "ArrayList", "List");
    private static final int MOST_LINES = 60, MOST_PARAMETERS = 7, MOST_CLASSES = 12, MOST_FIELDS = 20, DEEPEST = 8;

    private final CompilationUnitTree unit;
    private final Trees trees;
    private final Elements elements;
    private final Set<String> ownTypes = new HashSet<>();
    private final Set<String> publicMethods = new HashSet<>();
    private final Map<ExecutableElement, Set<ExecutableElement>> callsOf = new HashMap<>();
    private final Deque<ExecutableElement> within = new ArrayDeque<>();
    private int wrong;

    public static void main(String[] args) throws Exception {
        // Another file may be named, so that this test can be tried on what breaks a rule.
        Path source = Path.of(args.length > 0 ? args[0] : "src/main/java/NutsUp.java");
        JavaCompiler compiler = ToolProvider.getSystemJavaCompiler();
        try (StandardJavaFileManager files = compiler.getStandardFileManager(null, null, StandardCharsets.UTF_8)) {
            JavacTask task = (JavacTask) compiler.getTask(null, files, null, List.of("-proc:none"), null,
                files.getJavaFileObjects(source));
            CompilationUnitTree unit = task.parse().iterator().next();
            task.analyze();
            LanguageTest test = new LanguageTest(unit, Trees.instance(task), task.getElements());
            test.look(Files.readString(source, StandardCharsets.UTF_8));
            if (test.wrong > 0) {
                System.exit(1);
            }
        }
    }

    private LanguageTest(CompilationUnitTree unit, Trees trees, Elements elements) {
        this.unit = unit;
        this.trees = trees;
        this.elements = elements;
    }

    private void look(String words) {
        rule(3, words.chars().allMatch(sign -> sign == '\n' || sign >= ' ' && sign < 127), unit, "a sign beyond 126");
        new TreePathScanner<Void, Void>() {
            @Override
            public Void visitClass(ClassTree tree, Void unused) {
                ownTypes.add(tree.getSimpleName().toString());
                return super.visitClass(tree, unused);
            }

            @Override
            public Void visitMethod(MethodTree tree, Void unused) {
                if (tree.getModifiers().getFlags().contains(Modifier.PUBLIC)) {
                    publicMethods.add(tree.getName().toString());
                }
                return super.visitMethod(tree, unused);
            }
        }.scan(unit, null);
        rule(1, unit.getTypeDecls().size() == 1, unit, "there is more than one class outside");
        rule(11, ownTypes.size() <= MOST_CLASSES, unit, ownTypes.size() + " classes");
        scan(unit, null);
        for (ExecutableElement method : callsOf.keySet()) {
            deepFrom(method, new ArrayDeque<>());
        }
    }

    private void rule(int number, boolean kept, Tree tree, String told) {
        if (!kept) {
            wrong++;
            System.out.println("rule " + number + ", line " + lineOf(trees.getSourcePositions().getStartPosition(unit, tree))
                + ": " + told);
        }
    }

    private long lineOf(long position) {
        return position < 0 ? 0 : unit.getLineMap().getLineNumber(position);
    }

    // ---- what a tree is made of

    @Override
    public Void scan(Tree tree, Void unused) {
        if (tree != null) {
            rule(6, !NOT_IN_IT.contains(tree.getKind()), tree, "there is a " + tree.getKind());
        }
        return super.scan(tree, unused);
    }

    @Override
    public Void visitImport(ImportTree tree, Void unused) {
        rule(4, IMPORTS.contains(tree.getQualifiedIdentifier().toString()) && !tree.isStatic(), tree, "" + tree);
        return null;
    }

    @Override
    public Void visitClass(ClassTree tree, Void unused) {
        Element element = trees.getElement(getCurrentPath());
        Set<Modifier> flags = element.getModifiers();
        if (element.getEnclosingElement().getKind() == ElementKind.PACKAGE) {
            rule(1, flags.containsAll(Set.of(Modifier.PUBLIC, Modifier.FINAL)), tree, "the class is public and final");
            rule(1, tree.getSimpleName().contentEquals("NutsUp"), tree, "the class is NutsUp");
        } else {
            rule(2, element.getEnclosingElement().getKind().isClass() && !tree.getSimpleName().isEmpty(), tree,
                "a class within a method, or without a name");
            rule(2, flags.contains(Modifier.STATIC), tree, "a class inside is static");
            rule(1, !flags.contains(Modifier.PUBLIC) && !flags.contains(Modifier.PROTECTED), tree,
                "a class inside is private or package-visible");
        }
        long fields = tree.getMembers().stream().filter(LanguageTest::isFieldOfObjects).count();
        rule(11, fields <= MOST_FIELDS, tree, fields + " fields");
        return super.visitClass(tree, unused);
    }

    private static boolean isFieldOfObjects(Tree member) {
        return member instanceof VariableTree field && !field.getModifiers().getFlags().contains(Modifier.STATIC);
    }

    @Override
    public Void visitBlock(BlockTree tree, Void unused) {
        rule(5, !tree.isStatic(), tree, "a static initialiser block");
        return super.visitBlock(tree, unused);
    }

    @Override
    public Void visitVariable(VariableTree tree, Void unused) {
        Element element = trees.getElement(getCurrentPath());
        rule(3, tree.getType() == null || isKnown(tree.getType().toString()), tree, "the type " + tree.getType());
        if (element.getKind().isField()) {
            isHidden(element, tree);
            Set<Modifier> flags = element.getModifiers();
            boolean constant = flags.contains(Modifier.FINAL) && tree.getInitializer() != null
                && tree.getType().toString().matches("(int|long|char|byte)(\\[\\])?|boolean|String");
            rule(5, !flags.contains(Modifier.STATIC) || constant, tree, "a static field that is no constant");
        }
        return super.visitVariable(tree, unused);
    }

    /** Arrays have one dimension, those of numbers two at most. */
    private boolean isKnown(String type) {
        String one = type.replace("NutsUp.", "").replaceAll("<\\w+>", "").replaceFirst("\\[\\]$", "");
        if (one.endsWith("[]")) {
            return Set.of("int[]", "long[]", "short[]", "byte[]", "char[]").contains(one);
        }
        return TYPES.contains(one) || ownTypes.contains(one);
    }

    /** Rule 1: what the class itself has is private, but for the document's face, which FaceTest looks at. */
    private void isHidden(Element member, Tree tree) {
        boolean outside = member.getEnclosingElement().getEnclosingElement().getKind() == ElementKind.PACKAGE;
        Set<Modifier> flags = member.getModifiers();
        boolean kept = flags.contains(Modifier.PUBLIC) || flags.contains(Modifier.PRIVATE);
        rule(1, !outside || kept, tree, member + " is neither public nor private");
        rule(1, outside || !flags.contains(Modifier.PUBLIC), tree, member + " of a class inside is public");
    }

    @Override
    public Void visitMethod(MethodTree tree, Void unused) {
        ExecutableElement method = (ExecutableElement) trees.getElement(getCurrentPath());
        if (elements.getOrigin(method) != Elements.Origin.EXPLICIT) {
            return null;
        }
        String name = tree.getName().toString();
        isHidden(method, tree);
        rule(1, method.getModifiers().contains(Modifier.PUBLIC) || !publicMethods.contains(name)
            || name.equals("<init>"), tree, name + " bears the name of a public method");
        rule(3, tree.getReturnType() == null || isKnown(tree.getReturnType().toString()), tree,
            "the type " + tree.getReturnType());
        rule(6, !Set.of("equals", "hashCode", "toString").contains(name), tree, "an own " + name);
        rule(11, tree.getParameters().size() <= MOST_PARAMETERS, tree, name + " has too many parameters");
        long start = trees.getSourcePositions().getStartPosition(unit, tree);
        long end = trees.getSourcePositions().getEndPosition(unit, tree);
        rule(11, lineOf(end) - lineOf(start) < MOST_LINES, tree, name + " is too long");
        callsOf.put(method, new HashSet<>());
        within.push(method);
        super.visitMethod(tree, unused);
        within.pop();
        return null;
    }

    @Override
    public Void visitModifiers(ModifiersTree tree, Void unused) {
        Set<Modifier> known = Set.of(Modifier.PUBLIC, Modifier.PRIVATE, Modifier.STATIC, Modifier.FINAL, Modifier.ABSTRACT,
            Modifier.DEFAULT);
        rule(1, known.containsAll(tree.getFlags()), tree, "the modifiers " + tree);
        return super.visitModifiers(tree, unused);
    }

    // ---- loops, texts, comparisons

    @Override
    public Void visitForLoop(ForLoopTree tree, Void unused) {
        rule(9, tree.getCondition() != null && !isAlwaysSo(tree.getCondition()), tree, "a loop without an end");
        return super.visitForLoop(tree, unused);
    }

    @Override
    public Void visitWhileLoop(WhileLoopTree tree, Void unused) {
        rule(9, !isAlwaysSo(tree.getCondition()), tree, "a loop without an end");
        return super.visitWhileLoop(tree, unused);
    }

    @Override
    public Void visitDoWhileLoop(DoWhileLoopTree tree, Void unused) {
        rule(9, !isAlwaysSo(tree.getCondition()), tree, "a loop without an end");
        return super.visitDoWhileLoop(tree, unused);
    }

    private static boolean isAlwaysSo(ExpressionTree condition) {
        return condition.toString().matches("\\(*true\\)*");
    }

    @Override
    public Void visitBinary(BinaryTree tree, Void unused) {
        boolean texts = isText(tree.getLeftOperand()) || isText(tree.getRightOperand());
        rule(10, !texts || tree.getKind() != Tree.Kind.PLUS, tree, "texts joined by +");
        rule(6, !texts || tree.getKind() != Tree.Kind.EQUAL_TO && tree.getKind() != Tree.Kind.NOT_EQUAL_TO, tree,
            "texts compared by == or !=");
        return super.visitBinary(tree, unused);
    }

    @Override
    public Void visitCompoundAssignment(CompoundAssignmentTree tree, Void unused) {
        rule(10, !isText(tree.getVariable()), tree, "texts joined by +=");
        return super.visitCompoundAssignment(tree, unused);
    }

    private boolean isText(ExpressionTree tree) {
        String type = "" + trees.getTypeMirror(trees.getPath(unit, tree));
        return type.equals("java.lang.String") || type.equals("java.lang.Integer");
    }

    @Override
    public Void visitInstanceOf(InstanceOfTree tree, Void unused) {
        rule(6, isKnown(tree.getType() == null ? "int" : tree.getType().toString()), tree, "instanceof " + tree.getType());
        return super.visitInstanceOf(tree, unused);
    }

    // ---- calls

    @Override
    public Void visitNewClass(NewClassTree tree, Void unused) {
        rule(2, tree.getClassBody() == null, tree, "a class without a name");
        rule(4, isKnown(tree.getIdentifier().toString()), tree, "new " + tree.getIdentifier());
        called(tree, trees.getElement(getCurrentPath()));
        return super.visitNewClass(tree, unused);
    }

    @Override
    public Void visitMethodInvocation(MethodInvocationTree tree, Void unused) {
        called(tree, trees.getElement(getCurrentPath()));
        return super.visitMethodInvocation(tree, unused);
    }

    private void called(Tree tree, Element element) {
        ExecutableElement method = (ExecutableElement) element;
        String owner = method.getEnclosingElement().getSimpleName().toString();
        if (!ownTypes.contains(owner)) {
            boolean isNew = method.getKind() == ElementKind.CONSTRUCTOR;
            String name = owner + "." + method.getSimpleName();
            rule(4, isNew || LIBRARY.contains(name), tree, "the call " + name);
            return;
        }
        if (within.isEmpty()) {
            return;
        }
        ExecutableElement caller = within.peek();
        callsOf.get(caller).add(method);
        boolean overridable = method.getKind() == ElementKind.METHOD && !method.getModifiers().contains(Modifier.STATIC)
            && !method.getModifiers().contains(Modifier.PRIVATE)
            && caller.getEnclosingElement() == method.getEnclosingElement();
        rule(12, caller.getKind() != ElementKind.CONSTRUCTOR || !overridable, tree, "a constructor calls " + method);
    }

    /** Rules 8 and 11: no calls in a ring, and none too deep; a call may go to each method that overrides the one named. */
    private void deepFrom(ExecutableElement method, Deque<ExecutableElement> open) {
        if (open.contains(method)) {
            rule(8, false, trees.getTree(method), method + " comes to itself: " + open);
            return;
        }
        open.push(method);
        rule(11, open.size() <= DEEPEST, trees.getTree(method), "calls too deep: " + open);
        for (ExecutableElement callee : callsOf.getOrDefault(method, Set.of())) {
            deepFrom(callee, open);
            for (ExecutableElement other : callsOf.keySet()) {
                boolean overrides = elements.overrides(other, callee, (TypeElement) other.getEnclosingElement());
                // A body that asks for the one it overrides names that one alone.
                if (overrides && !elements.overrides(method, callee, (TypeElement) method.getEnclosingElement())) {
                    deepFrom(other, open);
                }
            }
        }
        open.pop();
    }
}
