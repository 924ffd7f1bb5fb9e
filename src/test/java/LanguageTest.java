import com.sun.source.tree.AssertTree;
import com.sun.source.tree.BinaryTree;
import com.sun.source.tree.BlockTree;
import com.sun.source.tree.ClassTree;
import com.sun.source.tree.CompilationUnitTree;
import com.sun.source.tree.ConditionalExpressionTree;
import com.sun.source.tree.DoWhileLoopTree;
import com.sun.source.tree.ExpressionTree;
import com.sun.source.tree.ForLoopTree;
import com.sun.source.tree.ImportTree;
import com.sun.source.tree.InstanceOfTree;
import com.sun.source.tree.LambdaExpressionTree;
import com.sun.source.tree.MemberReferenceTree;
import com.sun.source.tree.MethodInvocationTree;
import com.sun.source.tree.MethodTree;
import com.sun.source.tree.NewArrayTree;
import com.sun.source.tree.NewClassTree;
import com.sun.source.tree.SynchronizedTree;
import com.sun.source.tree.ThrowTree;
import com.sun.source.tree.Tree;
import com.sun.source.tree.TryTree;
import com.sun.source.tree.TypeCastTree;
import com.sun.source.tree.VariableTree;
import com.sun.source.tree.WhileLoopTree;
import com.sun.source.util.JavacTask;
import com.sun.source.util.TreePath;
import com.sun.source.util.TreePathScanner;
import com.sun.source.util.TreeScanner;
import com.sun.source.util.Trees;
import java.io.IOException;
import java.nio.file.Files;
import java.nio.file.Path;
import java.util.ArrayList;
import java.util.LinkedHashMap;
import java.util.LinkedHashSet;
import java.util.List;
import java.util.Map;
import java.util.Set;
import java.util.TreeSet;
import javax.lang.model.element.Element;
import javax.lang.model.element.Modifier;
import javax.lang.model.type.ArrayType;
import javax.lang.model.type.TypeMirror;
import javax.tools.JavaCompiler;
import javax.tools.JavaFileObject;
import javax.tools.StandardJavaFileManager;
import javax.tools.ToolProvider;

/**
 * The rules of LANGUAGE.md that can be seen in the source, as the compiler reads it. What the program does not use at
 * all (texts, lists, enums, casts of objects) is not allowed here either, so that its first use is looked at.
 */
public final class LanguageTest {
    private static final Path SOURCE = Path.of("src/main/java/KeySetter.java");
    private static final Set<String> NUMBERS = Set.of("int", "long", "short", "byte", "char");
    private static final Set<String> LIBRARY = Set.of("java.util.Arrays.fill", "java.util.Arrays.copyOf",
        "java.util.Arrays.copyOfRange", "java.lang.System.arraycopy", "java.lang.Math.min", "java.lang.Math.max",
        "java.lang.Math.abs");
    private static final Set<Tree.Kind> ORDERS = Set.of(Tree.Kind.LESS_THAN, Tree.Kind.GREATER_THAN,
        Tree.Kind.LESS_THAN_EQUAL, Tree.Kind.GREATER_THAN_EQUAL);
    private static final int MOST_PARAMETERS = 7, MOST_LINES = 60, MOST_CLASSES = 12, MOST_FIELDS = 20, DEEPEST = 8;
    private static int wrong = 0;

    private static void check(boolean holds, int rule, String otherwise) {
        if (!holds) {
            wrong++;
            System.out.println("rule " + rule + ": " + otherwise);
        }
    }

    // ---- what the source has

    private static final class Reader extends TreePathScanner<Void, Void> {
        final Trees trees;
        final CompilationUnitTree unit;
        final Map<String, Set<String>> calls = new LinkedHashMap<>();
        final Map<String, MethodTree> methods = new LinkedHashMap<>();
        int classes = 0;
        // Empty, and as in a constructor, where fields begin.
        private String method = "";
        private boolean inMaker = true;

        Reader(Trees trees, CompilationUnitTree unit) {
            this.trees = trees;
            this.unit = unit;
        }

        private long lineAt(long position) {
            return unit.getLineMap().getLineNumber(position);
        }

        private String place(Tree tree) {
            return "line " + lineAt(trees.getSourcePositions().getStartPosition(unit, tree));
        }

        private void bar(int rule, Tree tree) {
            check(false, rule, place(tree) + " has " + tree.getKind());
        }

        private static String nameOf(Element e) {
            return e.getEnclosingElement() + "." + e.getSimpleName();
        }

        /** With its parameters, as methods of one class may have one name. */
        private static String wholeNameOf(Element e) {
            return e.getEnclosingElement() + "." + e;
        }

        private void note(Element called) {
            calls.computeIfAbsent(method, m -> new LinkedHashSet<>()).add(wholeNameOf(called));
        }

        private static boolean isOwn(Element e) {
            return e.getEnclosingElement().toString().startsWith("KeySetter");
        }

        @Override public Void visitImport(ImportTree t, Void p) {
            check(t.getQualifiedIdentifier().toString().equals("java.util.Arrays"), 4, place(t) + " imports something else");
            return super.visitImport(t, p);
        }

        @Override public Void visitClass(ClassTree t, Void p) {
            classes++;
            TreePath above = getCurrentPath().getParentPath();
            boolean outermost = above.getLeaf() == unit;
            Set<Modifier> is = t.getModifiers().getFlags();
            check(t.getKind() == Tree.Kind.CLASS, 2, place(t) + " is no plain class");
            check(outermost || (above.getLeaf() instanceof ClassTree && is.contains(Modifier.STATIC)), 2,
                place(t) + " is an inner, local or anonymous class");
            int fields = 0;
            for (Tree member : t.getMembers()) {
                if (member instanceof BlockTree) bar(5, member);
                if (member instanceof VariableTree) fields += readField((VariableTree) member);
            }
            check(fields <= MOST_FIELDS, 11, t.getSimpleName() + " has " + fields + " fields");
            return super.visitClass(t, p);
        }

        /** 1 if it is a field of an object, 0 if it is a constant. */
        private int readField(VariableTree field) {
            Set<Modifier> is = field.getModifiers().getFlags();
            if (!is.contains(Modifier.STATIC)) return 1;
            String type = field.getType().toString();
            check(is.contains(Modifier.FINAL) && (type.equals("int") || type.equals("long")), 5,
                field.getName() + " is no constant of int or long");
            return 0;
        }

        @Override public Void visitMethod(MethodTree t, Void p) {
            String outer = method;
            method = wholeNameOf(trees.getElement(getCurrentPath()));
            inMaker = t.getName().contentEquals("<init>");
            methods.put(method, t);
            calls.putIfAbsent(method, new LinkedHashSet<>());
            check(t.getParameters().size() <= MOST_PARAMETERS, 11, method + " takes too many parameters");
            long first = lineAt(trees.getSourcePositions().getStartPosition(unit, t));
            long last = lineAt(trees.getSourcePositions().getEndPosition(unit, t));
            check(last - first < MOST_LINES, 11, method + " has " + (last - first + 1) + " lines");
            String name = t.getName().toString();
            check(!Set.of("equals", "hashCode", "toString").contains(name), 6, method + " is its own");
            super.visitMethod(t, p);
            method = outer;
            inMaker = true;
            return null;
        }

        @Override public Void visitVariable(VariableTree t, Void p) {
            checkType(t, trees.getTypeMirror(new TreePath(getCurrentPath(), t.getType())));
            return super.visitVariable(t, p);
        }

        private void checkType(Tree t, TypeMirror type) {
            int dimensions = 0;
            TypeMirror inside = type;
            while (inside instanceof ArrayType) {
                inside = ((ArrayType) inside).getComponentType();
                dimensions++;
            }
            String name = inside.toString();
            boolean number = NUMBERS.contains(name);
            check(number || name.equals("boolean") || name.startsWith("KeySetter"), 3, place(t) + " has the type " + name);
            check(dimensions <= (number ? 2 : 1), 3, place(t) + " has an array of too many dimensions");
        }

        @Override public Void visitMethodInvocation(MethodInvocationTree t, Void p) {
            Element called = trees.getElement(getCurrentPath());
            // What the compiler itself puts at a constructor's head.
            boolean above = nameOf(called).equals("java.lang.Object.<init>");
            if (isOwn(called)) note(called);
            else check(above || LIBRARY.contains(nameOf(called)), 4, place(t) + " calls " + nameOf(called));
            return super.visitMethodInvocation(t, p);
        }

        @Override public Void visitNewClass(NewClassTree t, Void p) {
            Element maker = trees.getElement(getCurrentPath());
            note(maker);
            check(isOwn(maker), 4, place(t) + " makes " + t.getIdentifier());
            check(t.getClassBody() == null, 2, place(t) + " has an anonymous class");
            checkMaking(t);
            return super.visitNewClass(t, p);
        }

        @Override public Void visitNewArray(NewArrayTree t, Void p) {
            checkMaking(t);
            return super.visitNewArray(t, p);
        }

        private void checkMaking(Tree t) {
            check(inMaker, 12, place(t) + " makes an object in " + method);
        }

        @Override public Void visitBinary(BinaryTree t, Void p) {
            if (t.getKind() == Tree.Kind.PLUS) {
                checkNumber(t.getLeftOperand());
                checkNumber(t.getRightOperand());
            }
            if (t.getKind() == Tree.Kind.DIVIDE || t.getKind() == Tree.Kind.REMAINDER) {
                boolean safe = t.getRightOperand().getKind() == Tree.Kind.INT_LITERAL && !t.getRightOperand().toString().equals("0");
                check(safe, 7, place(t) + " divides by what may be 0");
            }
            return super.visitBinary(t, p);
        }

        private void checkNumber(ExpressionTree t) {
            String type = trees.getTypeMirror(new TreePath(getCurrentPath(), t)).toString();
            check(NUMBERS.contains(type), 10, place(t) + " adds a " + type);
        }

        @Override public Void visitTypeCast(TypeCastTree t, Void p) {
            check(NUMBERS.contains(t.getType().toString()), 6, place(t) + " casts to " + t.getType());
            return super.visitTypeCast(t, p);
        }

        @Override public Void visitForLoop(ForLoopTree t, Void p) {
            checkEnd(t, t.getCondition());
            check(t.getUpdate().size() == 1, 9, place(t) + " has a loop whose counter is not seen");
            return super.visitForLoop(t, p);
        }

        @Override public Void visitWhileLoop(WhileLoopTree t, Void p) {
            checkEnd(t, t.getCondition());
            return super.visitWhileLoop(t, p);
        }

        @Override public Void visitDoWhileLoop(DoWhileLoopTree t, Void p) {
            checkEnd(t, t.getCondition());
            return super.visitDoWhileLoop(t, p);
        }

        private void checkEnd(Tree loop, ExpressionTree condition) {
            List<Tree> orders = new ArrayList<>();
            List<Tree> ways = new ArrayList<>();
            new TreeScanner<Void, Void>() {
                @Override public Void visitBinary(BinaryTree t, Void p) {
                    if (ORDERS.contains(t.getKind())) orders.add(t);
                    if (t.getKind() == Tree.Kind.CONDITIONAL_OR) ways.add(t);
                    return super.visitBinary(t, p);
                }

                @Override public Void visitConditionalExpression(ConditionalExpressionTree t, Void p) {
                    ways.add(t);
                    return super.visitConditionalExpression(t, p);
                }
            }.scan(condition, null);
            check(!orders.isEmpty() && ways.isEmpty(), 9, place(loop) + " has a loop whose end is not seen");
        }

        @Override public Void visitLambdaExpression(LambdaExpressionTree t, Void p) {
            bar(2, t);
            return super.visitLambdaExpression(t, p);
        }

        @Override public Void visitMemberReference(MemberReferenceTree t, Void p) {
            bar(2, t);
            return super.visitMemberReference(t, p);
        }

        @Override public Void visitThrow(ThrowTree t, Void p) {
            bar(6, t);
            return super.visitThrow(t, p);
        }

        @Override public Void visitTry(TryTree t, Void p) {
            bar(6, t);
            return super.visitTry(t, p);
        }

        @Override public Void visitSynchronized(SynchronizedTree t, Void p) {
            bar(6, t);
            return super.visitSynchronized(t, p);
        }

        @Override public Void visitAssert(AssertTree t, Void p) {
            bar(6, t);
            return super.visitAssert(t, p);
        }

        @Override public Void visitInstanceOf(InstanceOfTree t, Void p) {
            bar(6, t);
            return super.visitInstanceOf(t, p);
        }
    }

    // ---- calls on top of one another

    private static Set<String> reached(Map<String, Set<String>> calls, String from) {
        Set<String> seen = new TreeSet<>();
        List<String> open = new ArrayList<>(calls.get(from));
        while (!open.isEmpty()) {
            String next = open.remove(open.size() - 1);
            if (seen.add(next)) open.addAll(calls.getOrDefault(next, Set.of()));
        }
        return seen;
    }

    /** The methods of one recursion count once each. */
    private static int depthFrom(String method, Map<String, Set<String>> calls, Set<String> standing) {
        int deepest = 0;
        for (String next : calls.getOrDefault(method, Set.of())) {
            if (standing.add(next)) {
                deepest = Math.max(deepest, depthFrom(next, calls, standing));
                standing.remove(next);
            }
        }
        return deepest + 1;
    }

    private static void checkDepth(Map<String, Set<String>> calls) {
        for (String method : calls.keySet()) {
            Set<String> standing = new TreeSet<>(Set.of(method));
            int depth = depthFrom(method, calls, standing);
            check(depth <= DEEPEST, 11, method + " goes " + depth + " deep");
        }
    }

    /** Only these call themselves: of them it is known that a limit of the document keeps the depth low. */
    private static void checkRecursion(Reader reader) {
        Set<String> recursive = new TreeSet<>();
        for (String method : reader.calls.keySet()) {
            if (reached(reader.calls, method).contains(method)) {
                recursive.add(method.replaceAll("\\(.*", ""));
                MethodTree tree = reader.methods.get(method);
                check(tree.getModifiers().getFlags().contains(Modifier.PRIVATE), 8, method + " is not private");
                boolean depth = !tree.getParameters().isEmpty() && tree.getParameters().get(0).getType().toString().equals("int");
                check(depth, 8, method + " carries no depth");
            }
        }
        Set<String> known = Set.of("KeySetter.Finder.placeFrom", "KeySetter.Finder.tryOn", "KeySetter.Turner.turnsFrom",
            "KeySetter.Turner.turnsWith");
        check(recursive.equals(known), 8, "these call themselves: " + recursive);
    }

    private static Reader read() throws IOException {
        JavaCompiler javac = ToolProvider.getSystemJavaCompiler();
        try (StandardJavaFileManager files = javac.getStandardFileManager(null, null, null)) {
            Iterable<? extends JavaFileObject> sources = files.getJavaFileObjects(SOURCE);
            JavacTask task = (JavacTask) javac.getTask(null, files, null, List.of("--release", "17"), null, sources);
            CompilationUnitTree unit = task.parse().iterator().next();
            task.analyze();
            Reader reader = new Reader(Trees.instance(task), unit);
            check(unit.getPackageName() == null, 1, "there is a package line");
            check(unit.getTypeDecls().size() == 1, 1, "there is more than one class beside another");
            reader.scan(new TreePath(unit), null);
            return reader;
        }
    }

    public static void main(String[] args) throws IOException {
        Reader reader = read();
        check(reader.classes <= MOST_CLASSES, 11, "there are " + reader.classes + " classes");
        check(reader.methods.containsKey("KeySetter.digest()"), 1, "the source was not read");
        checkDepth(reader.calls);
        checkRecursion(reader);
        check(Files.readString(SOURCE).chars().allMatch(c -> c < 128), 3, "the source is not plain text");
        System.out.println(wrong == 0 ? "the source keeps to the rules" : wrong + " things are not as due");
        if (wrong != 0) System.exit(1);
    }
}
