import com.sun.source.tree.AssertTree;
import com.sun.source.tree.AssignmentTree;
import com.sun.source.tree.BinaryTree;
import com.sun.source.tree.BlockTree;
import com.sun.source.tree.ClassTree;
import com.sun.source.tree.CompilationUnitTree;
import com.sun.source.tree.DoWhileLoopTree;
import com.sun.source.tree.ExpressionTree;
import com.sun.source.tree.ForLoopTree;
import com.sun.source.tree.LambdaExpressionTree;
import com.sun.source.tree.MemberReferenceTree;
import com.sun.source.tree.MethodInvocationTree;
import com.sun.source.tree.MethodTree;
import com.sun.source.tree.NewArrayTree;
import com.sun.source.tree.NewClassTree;
import com.sun.source.tree.SynchronizedTree;
import com.sun.source.tree.ThrowTree;
import com.sun.source.tree.Tree;
import com.sun.source.tree.TryTree;
import com.sun.source.tree.VariableTree;
import com.sun.source.tree.WhileLoopTree;
import com.sun.source.util.JavacTask;
import com.sun.source.util.TreePath;
import com.sun.source.util.TreePathScanner;
import com.sun.source.util.Trees;
import java.io.File;
import java.lang.reflect.Constructor;
import java.lang.reflect.Field;
import java.lang.reflect.Method;
import java.lang.reflect.Modifier;
import java.util.ArrayList;
import java.util.HashMap;
import java.util.HashSet;
import java.util.LinkedHashMap;
import java.util.LinkedHashSet;
import java.util.List;
import java.util.Map;
import java.util.Set;
import java.util.TreeSet;
import javax.lang.model.element.Element;
import javax.lang.model.element.ElementKind;
import javax.tools.JavaCompiler;
import javax.tools.StandardJavaFileManager;
import javax.tools.ToolProvider;

/**
 * The rules of LANGUAGE.md that can be seen in the source, and the document's public face. In places
 * it asks for more than the rules do: objects only where an object begins, loops only with a counter.
 */
public final class LanguageTest {
    private static final Set<String> FACE = Set.of(
        "int count(int)", "int feed(int,int,int,int,int,int)", "int text()", "int force(int)", "int asks(int,int,int,int)",
        "int man(int,int)", "int put(int,int,int)", "int told(int,int)", "int bout(int,int,int,int)",
        "int fight(int,int,int,int)", "int best(int,int,int,int)", "int sure(int,int,int)", "long chance(int,int,int)",
        "int knees(int,int,int)", "int beats(int,int,int)", "int meet(int,int)", "int run(int,int,int)",
        "int judge(int,int,int,int)", "int kinds(int,int,int,int,int)", "int acts(int,int,int,int,int)",
        "int heavy(int,int,int,int,int)", "int laws(int,int,int,int)", "int whose(int,int,int,int)",
        "int film(int,int,int,int)", "int drawn(int,int,int,int)", "long odds(int,int,int,int,int)", "int image()",
        "int back()", "int sheet(int,int,int)", "int cell(int,int,int)", "int copy(int,int,int,int,int)",
        "int menBy(int,int,int,int)", "int taken(int,int)");
    private static final Set<String> CONSTANTS = Set.of("int NONE", "int BAD", "int STATE", "int FULL", "long NO");
    private static final Set<String> LIBRARY = Set.of(
        "java.lang.String.length", "java.lang.String.charAt", "java.lang.String.indexOf", "java.lang.Math.max",
        "java.lang.Math.min", "java.lang.Math.abs", "java.lang.System.arraycopy", "java.util.Arrays.fill",
        "java.lang.Object.<init>");

    private static void bad(String what) {
        Checks.due(what, 1, 0);
    }

    // ---- the face, as callers see it

    private static String signature(Method method) {
        List<String> parameters = new ArrayList<>();
        for (Class<?> type : method.getParameterTypes()) {
            parameters.add(type.getName());
        }
        return method.getReturnType().getName() + " " + method.getName() + "(" + String.join(",", parameters) + ")";
    }

    private static void face() {
        Class<?> ring = RingOfStraw.class;
        Checks.due("public and final", Modifier.isPublic(ring.getModifiers()) && Modifier.isFinal(ring.getModifiers()));
        Set<String> methods = new TreeSet<>();
        Set<String> names = new HashSet<>();
        for (Method method : ring.getDeclaredMethods()) {
            if (Modifier.isPublic(method.getModifiers())) {
                methods.add(signature(method));
                names.add(method.getName());
                Checks.due("static " + method, Modifier.isStatic(method.getModifiers()) ? 1 : 0, 0);
            } else {
                Checks.due("private " + method, Modifier.isPrivate(method.getModifiers()));
            }
        }
        Checks.due("methods of the face " + methods, methods.equals(FACE));
        Set<String> constants = new TreeSet<>();
        for (Field field : ring.getDeclaredFields()) {
            if (Modifier.isPublic(field.getModifiers())) {
                constants.add(field.getType().getName() + " " + field.getName());
                Checks.due("constant " + field, Modifier.isStatic(field.getModifiers()) && Modifier.isFinal(field.getModifiers()));
            } else {
                Checks.due("private " + field, Modifier.isPrivate(field.getModifiers()));
            }
        }
        Checks.due("constants of the face " + constants, constants.equals(CONSTANTS));
        Constructor<?>[] constructors = ring.getDeclaredConstructors();
        Checks.due("one constructor", constructors.length, 1);
        Checks.due("public constructor without parameters",
            Modifier.isPublic(constructors[0].getModifiers()) && constructors[0].getParameterCount() == 0);
        for (Class<?> inside : ring.getDeclaredClasses()) {
            Checks.due("static, not public " + inside, Modifier.isStatic(inside.getModifiers())
                && !Modifier.isPublic(inside.getModifiers()) && !Modifier.isProtected(inside.getModifiers()));
            for (Method method : inside.getDeclaredMethods()) {
                Checks.due("name of a public one: " + method, names.contains(method.getName()) ? 1 : 0, 0);
            }
        }
    }

    // ---- the source

    private static final class Rules extends TreePathScanner<Void, Void> {
        final Trees trees;
        final CompilationUnitTree unit;
        final Map<Element, Set<Element>> calls = new LinkedHashMap<>();
        final Set<Element> hidden = new HashSet<>();
        int classes = 0;
        Element method = null;

        Rules(Trees trees, CompilationUnitTree unit) {
            this.trees = trees;
            this.unit = unit;
        }

        long line(Tree tree) {
            return unit.getLineMap().getLineNumber(trees.getSourcePositions().getStartPosition(unit, tree));
        }

        void no(String what, Tree tree) {
            bad(what + " in line " + line(tree));
        }

        @Override public Void visitClass(ClassTree tree, Void nothing) {
            classes++;
            int fields = 0;
            for (Tree member : tree.getMembers()) {
                if (member instanceof VariableTree field) {
                    fields += field.getModifiers().getFlags().contains(javax.lang.model.element.Modifier.STATIC) ? 0 : 1;
                    looksAtField(field);
                }
                if (member instanceof BlockTree) {
                    no("an initialiser block", member);
                }
            }
            if (fields > 20) {
                no("more than twenty fields", tree);
            }
            if (tree.getKind() != Tree.Kind.CLASS) {
                no("a class of another sort: look at the rules again", tree);
            }
            return super.visitClass(tree, nothing);
        }

        private void looksAtField(VariableTree field) {
            Set<javax.lang.model.element.Modifier> flags = field.getModifiers().getFlags();
            if (!flags.contains(javax.lang.model.element.Modifier.STATIC)) {
                return;
            }
            if (!flags.contains(javax.lang.model.element.Modifier.FINAL)) {
                no("a static field that isn't final", field);
            }
            if (!Set.of("int", "long", "boolean", "char", "String", "int[]", "long[]", "char[]", "byte[]").contains(field.getType().toString())) {
                no("a static field of type " + field.getType(), field);
            }
        }

        @Override public Void visitMethod(MethodTree tree, Void nothing) {
            Element before = method;
            method = trees.getElement(getCurrentPath());
            calls.putIfAbsent(method, new LinkedHashSet<>());
            if (tree.getModifiers().getFlags().contains(javax.lang.model.element.Modifier.PRIVATE)) {
                hidden.add(method);
            }
            if (tree.getParameters().size() > 7) {
                no("more than seven parameters", tree);
            }
            long end = unit.getLineMap().getLineNumber(Math.max(0, trees.getSourcePositions().getEndPosition(unit, tree)));
            if (end - line(tree) > 60) {
                no("a long method", tree);
            }
            if (Set.of("equals", "hashCode", "toString").contains(tree.getName().toString())) {
                no("a method of " + tree.getName(), tree);
            }
            super.visitMethod(tree, nothing);
            method = before;
            return null;
        }

        @Override public Void visitMethodInvocation(MethodInvocationTree tree, Void nothing) {
            Element called = trees.getElement(new TreePath(getCurrentPath(), tree.getMethodSelect()));
            String name = called.getEnclosingElement() + "." + called.getSimpleName();
            if (name.startsWith("RingOfStraw")) {
                calls.get(method).add(called);
            } else if (!LIBRARY.contains(name)) {
                no("a call of " + name, tree);
            }
            return super.visitMethodInvocation(tree, nothing);
        }

        private void makes(Tree tree) {
            boolean isBeginning = method == null || method.getKind() == ElementKind.CONSTRUCTOR;
            if (!isBeginning) {
                no("something made behind the beginning", tree);
            }
        }

        @Override public Void visitNewClass(NewClassTree tree, Void nothing) {
            if (tree.getClassBody() != null) {
                no("an anonymous class", tree);
            }
            makes(tree);
            if (method != null) {
                calls.get(method).add(trees.getElement(getCurrentPath()));
            }
            return super.visitNewClass(tree, nothing);
        }

        @Override public Void visitNewArray(NewArrayTree tree, Void nothing) {
            makes(tree);
            return super.visitNewArray(tree, nothing);
        }

        @Override public Void visitForLoop(ForLoopTree tree, Void nothing) {
            if (tree.getCondition() == null || tree.getUpdate().size() != 1 || !tree.getCondition().toString().contains("<")) {
                no("a loop without a counter against a bound", tree);
            }
            return super.visitForLoop(tree, nothing);
        }

        @Override public Void visitWhileLoop(WhileLoopTree tree, Void nothing) {
            no("a while", tree);
            return super.visitWhileLoop(tree, nothing);
        }

        @Override public Void visitDoWhileLoop(DoWhileLoopTree tree, Void nothing) {
            no("a do", tree);
            return super.visitDoWhileLoop(tree, nothing);
        }

        @Override public Void visitThrow(ThrowTree tree, Void nothing) {
            no("a throw", tree);
            return null;
        }

        @Override public Void visitTry(TryTree tree, Void nothing) {
            no("a try", tree);
            return null;
        }

        @Override public Void visitAssert(AssertTree tree, Void nothing) {
            no("an assert", tree);
            return null;
        }

        @Override public Void visitSynchronized(SynchronizedTree tree, Void nothing) {
            no("a synchronized", tree);
            return null;
        }

        @Override public Void visitLambdaExpression(LambdaExpressionTree tree, Void nothing) {
            no("a lambda", tree);
            return null;
        }

        @Override public Void visitMemberReference(MemberReferenceTree tree, Void nothing) {
            no("a method reference", tree);
            return null;
        }

        @Override public Void visitBinary(BinaryTree tree, Void nothing) {
            if (isText(tree.getLeftOperand()) || isText(tree.getRightOperand())) {
                no("an operator between texts", tree);
            }
            boolean isDivision = tree.getKind() == Tree.Kind.DIVIDE || tree.getKind() == Tree.Kind.REMAINDER;
            if (isDivision && !isConstantOrLookedAt(tree.getRightOperand())) {
                no("a divisor " + tree.getRightOperand(), tree);
            }
            return super.visitBinary(tree, nothing);
        }

        private boolean isConstantOrLookedAt(ExpressionTree divisor) {
            Element element = trees.getElement(new TreePath(getCurrentPath(), divisor));
            boolean isConstant = element instanceof javax.lang.model.element.VariableElement variable
                && variable.getConstantValue() != null;
            return isConstant || divisor.getKind() == Tree.Kind.INT_LITERAL || Set.of("common", "rest").contains(divisor.toString());
        }

        private boolean isText(Tree operand) {
            javax.lang.model.type.TypeMirror type = trees.getTypeMirror(new TreePath(getCurrentPath(), operand));
            return type != null && type.toString().equals("java.lang.String");
        }

        @Override public Void visitAssignment(AssignmentTree tree, Void nothing) {
            Element to = trees.getElement(new TreePath(getCurrentPath(), tree.getVariable()));
            if (to != null && to.getKind() == ElementKind.PARAMETER) {
                no("a parameter that changes", tree);
            }
            return super.visitAssignment(tree, nothing);
        }
    }

    // ---- how deep calls go

    private static final class Depths {
        final Map<Element, Set<Element>> calls;
        final Map<Element, Integer> known = new HashMap<>();

        Depths(Map<Element, Set<Element>> calls) {
            this.calls = calls;
        }

        Set<Element> reached(Element from) {
            Set<Element> reached = new HashSet<>();
            List<Element> open = new ArrayList<>(calls.getOrDefault(from, Set.of()));
            while (!open.isEmpty()) {
                Element next = open.remove(open.size() - 1);
                if (reached.add(next)) {
                    open.addAll(calls.getOrDefault(next, Set.of()));
                }
            }
            return reached;
        }

        /** Methods that call one another count as one. */
        int depth(Element from) {
            Integer depth = known.get(from);
            if (depth != null) {
                return depth;
            }
            Set<Element> ring = new HashSet<>(Set.of(from));
            for (Element other : reached(from)) {
                if (reached(other).contains(from)) {
                    ring.add(other);
                }
            }
            int most = 0;
            for (Element one : ring) {
                for (Element called : calls.getOrDefault(one, Set.of())) {
                    most = ring.contains(called) ? most : Math.max(most, depth(called));
                }
            }
            for (Element one : ring) {
                known.put(one, most + 1);
            }
            return most + 1;
        }
    }

    private static void source() throws Exception {
        JavaCompiler compiler = ToolProvider.getSystemJavaCompiler();
        StandardJavaFileManager files = compiler.getStandardFileManager(null, null, null);
        File main = new File(System.getProperty("main", "src/main/java/RingOfStraw.java"));
        JavacTask task = (JavacTask) compiler.getTask(null, files, null, List.of("-proc:none"), null, files.getJavaFileObjects(main));
        CompilationUnitTree unit = task.parse().iterator().next();
        task.analyze();
        Checks.due("no package", unit.getPackage() == null);
        Checks.due("one class outside all others", unit.getTypeDecls().size(), 1);
        Rules rules = new Rules(Trees.instance(task), unit);
        rules.scan(unit, null);
        Checks.due("some twelve classes at most, here " + rules.classes, rules.classes <= 12);
        Depths depths = new Depths(rules.calls);
        for (Element method : rules.calls.keySet()) {
            Checks.due(method + " goes " + depths.depth(method) + " deep", depths.depth(method) <= 8);
            if (depths.reached(method).contains(method)) {
                Checks.due(method + " calls itself: private", rules.hidden.contains(method));
            }
        }
        String signs = java.nio.file.Files.readString(main.toPath());
        Checks.due("signs 1 to 127 alone", signs.chars().allMatch(c -> c >= 1 && c <= 127));
    }

    public static void main(String[] args) throws Exception {
        face();
        source();
        Checks.end();
    }
}
