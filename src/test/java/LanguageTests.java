import com.sun.source.tree.AssertTree;
import com.sun.source.tree.BinaryTree;
import com.sun.source.tree.BlockTree;
import com.sun.source.tree.ClassTree;
import com.sun.source.tree.CompilationUnitTree;
import com.sun.source.tree.CompoundAssignmentTree;
import com.sun.source.tree.ExpressionTree;
import com.sun.source.tree.InstanceOfTree;
import com.sun.source.tree.LambdaExpressionTree;
import com.sun.source.tree.LiteralTree;
import com.sun.source.tree.MemberReferenceTree;
import com.sun.source.tree.MethodInvocationTree;
import com.sun.source.tree.MethodTree;
import com.sun.source.tree.NewClassTree;
import com.sun.source.tree.SynchronizedTree;
import com.sun.source.tree.ThrowTree;
import com.sun.source.tree.Tree;
import com.sun.source.tree.TryTree;
import com.sun.source.tree.VariableTree;
import com.sun.source.util.JavacTask;
import com.sun.source.util.TreePathScanner;
import com.sun.source.util.Trees;
import java.io.IOException;
import java.util.LinkedHashMap;
import java.util.LinkedHashSet;
import java.util.List;
import java.util.Map;
import java.util.Set;
import javax.lang.model.element.Element;
import javax.lang.model.element.ElementKind;
import javax.lang.model.element.Modifier;
import javax.lang.model.element.TypeElement;
import javax.tools.JavaCompiler;
import javax.tools.StandardJavaFileManager;
import javax.tools.ToolProvider;

/**
 * The rules of ../shared/LANGUAGE.md that can be seen in the source: it is read as javac reads it. FaceTests sees to
 * rule 1. Run it in the project's own folder.
 */
public final class LanguageTests extends TreePathScanner<Void, Void> {
    private static final String SOURCE = "src/main/java/ModuleLoft.java";
    private static final int MOST_PARAMETERS = 7;
    private static final int MOST_LINES = 60;
    private static final int MOST_CLASSES = 12;
    private static final int MOST_FIELDS = 20;
    private static final int MOST_CALLS_DEEP = 8;
    /** What may be called of the library, and of which it is any function; but none whose name ends in Exact. */
    private static final Map<String, Set<String>> LIBRARY = Map.ofEntries(
            Map.entry("java.lang.Object", Set.of("<init>")),
            Map.entry("java.lang.String", Set.of("<init>", "length", "charAt", "isEmpty", "equals", "indexOf", "substring",
                    "toCharArray")),
            Map.entry("java.lang.StringBuilder", Set.of("<init>", "append", "charAt", "setCharAt", "setLength",
                    "deleteCharAt", "reverse", "length", "toString")),
            Map.entry("java.util.ArrayList", Set.of("<init>", "add", "get", "set", "remove", "size", "isEmpty", "clear")),
            Map.entry("java.util.List", Set.of("add", "get", "set", "remove", "size", "isEmpty", "clear", "of")),
            Map.entry("java.lang.System", Set.of("arraycopy")),
            Map.entry("java.util.Arrays", Set.of("copyOf", "copyOfRange", "fill")));
    private static final Set<String> WHOLE_LIBRARY = Set.of("java.lang.Math", "java.lang.Integer", "java.lang.Long");
    private static final Set<String> TYPES = Set.of("int", "long", "short", "byte", "char", "boolean", "double", "float",
            "String", "StringBuilder", "Integer", "List", "ArrayList");
    private static final Set<String> EXCEPTIONS = Set.of("IllegalStateException", "IllegalArgumentException",
            "IndexOutOfBoundsException", "ArithmeticException", "UnsupportedOperationException",
            "NoSuchElementException", "RuntimeException");
    private static final Set<String> CONSTANT_TYPES = Set.of("int", "long", "boolean", "char", "String");
    private static final Set<String> CONSTANT_ARRAYS = Set.of("int[]", "long[]", "char[]", "byte[]");
    private static final Set<String> METHODS_OF_OBJECTS = Set.of("equals", "hashCode", "toString");

    private final Trees trees;
    private final CompilationUnitTree unit;
    /** For each method or constructor of the source, those of the source that it calls. */
    private final Map<Element, Set<Element>> calls = new LinkedHashMap<>();
    private final Map<Element, MethodTree> methods = new LinkedHashMap<>();
    private Element caller;
    private final Set<String> ownClasses = new LinkedHashSet<>();
    private int wrong = 0;

    private LanguageTests(Trees trees, CompilationUnitTree unit) {
        this.trees = trees;
        this.unit = unit;
    }

    private void check(boolean isRight, Tree where, String what) {
        if (!isRight) {
            wrong++;
            System.out.println("line " + line(trees.getSourcePositions().getStartPosition(unit, where)) + ": " + what);
        }
    }

    private long line(long position) {
        return unit.getLineMap().getLineNumber(position);
    }

    private Element element() {
        return trees.getElement(getCurrentPath());
    }

    // ---- rules 2, 5 and 11: classes, fields and methods

    @Override
    public Void visitClass(ClassTree node, Void none) {
        Element owner = element().getEnclosingElement();
        boolean isOuter = owner.getKind() == ElementKind.PACKAGE;
        check(isOuter || node.getModifiers().getFlags().contains(Modifier.STATIC), node, "rule 2: a class inside is static");
        int fields = 0;
        for (Tree member : node.getMembers()) {
            if (member instanceof VariableTree) {
                fields += checkField((VariableTree) member) ? 1 : 0;
            }
            check(!(member instanceof BlockTree) || !((BlockTree) member).isStatic(), member, "rule 5: a static block");
        }
        check(fields <= MOST_FIELDS, node, "rule 11: " + fields + " fields");
        return super.visitClass(node, none);
    }

    /** Returns whether it is a field of the objects. */
    private boolean checkField(VariableTree field) {
        Set<Modifier> flags = field.getModifiers().getFlags();
        if (!flags.contains(Modifier.STATIC)) {
            return true;
        }
        String type = field.getType().toString();
        check(flags.contains(Modifier.FINAL) && (CONSTANT_TYPES.contains(type) || CONSTANT_ARRAYS.contains(type)),
                field, "rule 5: the static field " + field.getName());
        return false;
    }

    @Override
    public Void visitMethod(MethodTree node, Void none) {
        Element around = caller;
        caller = element();
        calls.put(caller, new LinkedHashSet<>());
        methods.put(caller, node);
        check(!METHODS_OF_OBJECTS.contains(node.getName().toString()), node, "rule 6: " + node.getName());
        check(node.getParameters().size() <= MOST_PARAMETERS, node, "rule 11: too many parameters");
        long lines = 1 + line(trees.getSourcePositions().getEndPosition(unit, node))
                - line(trees.getSourcePositions().getStartPosition(unit, node));
        check(lines <= MOST_LINES, node, "rule 11: a method of " + lines + " lines");
        super.visitMethod(node, none);
        caller = around;
        return null;
    }

    @Override
    public Void visitLambdaExpression(LambdaExpressionTree node, Void none) {
        check(false, node, "rule 2: a lambda");
        return super.visitLambdaExpression(node, none);
    }

    @Override
    public Void visitMemberReference(MemberReferenceTree node, Void none) {
        check(false, node, "rule 2: a method reference");
        return super.visitMemberReference(node, none);
    }

    // ---- rules 3 and 4: types and the library

    @Override
    public Void visitVariable(VariableTree node, Void none) {
        String type = String.valueOf(node.getType());
        String element = type.replace("[]", "").replaceAll("<.*", "");
        check(TYPES.contains(element) || ownClasses.contains(element), node, "rule 3: a variable of " + type);
        check(!type.endsWith("[][]") || !ownClasses.contains(element), node, "rule 3: two dimensions of " + element);
        return super.visitVariable(node, none);
    }

    @Override
    public Void visitMethodInvocation(MethodInvocationTree node, Void none) {
        noteCall(node);
        return super.visitMethodInvocation(node, none);
    }

    @Override
    public Void visitNewClass(NewClassTree node, Void none) {
        noteCall(node);
        return super.visitNewClass(node, none);
    }

    private void noteCall(Tree node) {
        Element called = element();
        TypeElement owner = (TypeElement) called.getEnclosingElement();
        String name = owner.getQualifiedName().toString();
        if (name.equals("ModuleLoft") || name.startsWith("ModuleLoft.")) {
            if (caller != null) {
                calls.get(caller).add(called);
            }
            return;
        }
        String function = called.getSimpleName().toString();
        boolean isListed = LIBRARY.getOrDefault(name, Set.of()).contains(function)
                || WHOLE_LIBRARY.contains(name) && !function.endsWith("Exact")
                || EXCEPTIONS.contains(owner.getSimpleName().toString()) && function.equals("<init>");
        check(isListed, node, "rule 4: " + name + "." + function);
    }

    // ---- rules 6 and 10: exceptions, and what may not be written at all

    @Override
    public Void visitThrow(ThrowTree node, Void none) {
        check(caller != null && caller.getKind() == ElementKind.METHOD, node, "rule 6: a throw in a constructor");
        boolean isNew = false;
        if (node.getExpression() instanceof NewClassTree) {
            NewClassTree made = (NewClassTree) node.getExpression();
            List<? extends ExpressionTree> arguments = made.getArguments();
            isNew = EXCEPTIONS.contains(made.getIdentifier().toString())
                    && (arguments.isEmpty() || arguments.size() == 1 && arguments.get(0) instanceof LiteralTree);
        }
        check(isNew, node, "rule 6: " + node);
        return super.visitThrow(node, none);
    }

    @Override
    public Void visitTry(TryTree node, Void none) {
        check(node.getFinallyBlock() == null && node.getResources().isEmpty(), node, "rule 6: finally, or resources");
        return super.visitTry(node, none);
    }

    @Override
    public Void visitSynchronized(SynchronizedTree node, Void none) {
        check(false, node, "rule 6: synchronized");
        return super.visitSynchronized(node, none);
    }

    @Override
    public Void visitAssert(AssertTree node, Void none) {
        check(false, node, "rule 6: assert");
        return super.visitAssert(node, none);
    }

    @Override
    public Void visitInstanceOf(InstanceOfTree node, Void none) {
        check(!node.getType().toString().equals("Object"), node, "rule 6: instanceof Object");
        return super.visitInstanceOf(node, none);
    }

    @Override
    public Void visitBinary(BinaryTree node, Void none) {
        check(node.getKind() != Tree.Kind.PLUS || !isText(), node, "rule 10: a text joined by +");
        return super.visitBinary(node, none);
    }

    @Override
    public Void visitCompoundAssignment(CompoundAssignmentTree node, Void none) {
        check(!isText(), node, "rule 10: a text joined by +=");
        return super.visitCompoundAssignment(node, none);
    }

    private boolean isText() {
        return String.valueOf(trees.getTypeMirror(getCurrentPath())).equals("java.lang.String");
    }

    // ---- rules 8 and 11: recursion, and how deep calls go

    /** A method that calls itself is private and carries its depth; no two call one another. */
    private void checkRecursion() {
        for (Map.Entry<Element, MethodTree> one : methods.entrySet()) {
            if (calls.get(one.getKey()).contains(one.getKey())) {
                boolean isDepthCarried = false;
                for (VariableTree parameter : one.getValue().getParameters()) {
                    isDepthCarried |= parameter.getName().contentEquals("depth");
                }
                check(isDepthCarried && one.getKey().getModifiers().contains(Modifier.PRIVATE), one.getValue(),
                        "rule 8: " + one.getKey() + " calls itself");
            }
        }
    }

    /** How many methods stand open at the most, this one too, where a call of itself is not counted. */
    private int deepest(Element method, Set<Element> open) {
        int deepest = 0;
        if (!open.add(method)) {
            check(false, methods.get(method), "rule 8: " + method + " is called by what it calls");
            return 0;
        }
        for (Element called : calls.getOrDefault(method, Set.of())) {
            if (called != method) {
                deepest = Math.max(deepest, deepest(called, open));
            }
        }
        open.remove(method);
        return deepest + 1;
    }

    private void noteClasses() {
        new TreePathScanner<Void, Void>() {
            @Override
            public Void visitClass(ClassTree node, Void none) {
                ownClasses.add(node.getSimpleName().toString());
                return super.visitClass(node, none);
            }
        }.scan(unit, null);
    }

    private void checkAll() {
        noteClasses();
        scan(unit, null);
        check(ownClasses.size() <= MOST_CLASSES, unit, "rule 11: " + ownClasses.size() + " classes");
        checkRecursion();
        int deepest = 0;
        for (Map.Entry<Element, MethodTree> one : methods.entrySet()) {
            int deep = deepest(one.getKey(), new LinkedHashSet<>());
            check(deep <= MOST_CALLS_DEEP, one.getValue(), "rule 11: " + one.getKey() + " goes " + deep + " deep");
            deepest = Math.max(deepest, deep);
        }
        System.out.println(ownClasses.size() + " classes, " + methods.size() + " methods, calls " + deepest + " deep: "
                + wrong + " things are not as due");
    }

    public static void main(String[] args) throws IOException {
        JavaCompiler compiler = ToolProvider.getSystemJavaCompiler();
        StandardJavaFileManager files = compiler.getStandardFileManager(null, null, null);
        JavacTask task = (JavacTask) compiler.getTask(null, files, null, List.of("-proc:none"), null,
                files.getJavaFileObjects(args.length > 0 ? args[0] : SOURCE));
        CompilationUnitTree unit = task.parse().iterator().next();
        task.analyze();
        LanguageTests tests = new LanguageTests(Trees.instance(task), unit);
        tests.checkAll();
        if (tests.wrong != 0 || tests.methods.isEmpty()) {
            System.exit(1);
        }
    }
}
