import com.sun.source.tree.BinaryTree;
import com.sun.source.tree.ClassTree;
import com.sun.source.tree.CompilationUnitTree;
import com.sun.source.tree.ForLoopTree;
import com.sun.source.tree.MethodInvocationTree;
import com.sun.source.tree.MethodTree;
import com.sun.source.tree.NewArrayTree;
import com.sun.source.tree.NewClassTree;
import com.sun.source.tree.Tree;
import com.sun.source.tree.Tree.Kind;
import com.sun.source.tree.UnaryTree;
import com.sun.source.tree.VariableTree;
import com.sun.source.util.JavacTask;
import com.sun.source.util.TreePath;
import com.sun.source.util.TreePathScanner;
import com.sun.source.util.Trees;
import java.io.File;
import java.io.IOException;
import java.lang.reflect.Method;
import java.util.ArrayDeque;
import java.util.Deque;
import java.util.EnumSet;
import java.util.List;
import java.util.Map;
import java.util.Set;
import java.util.TreeMap;
import java.util.TreeSet;
import javax.lang.model.element.Element;
import javax.lang.model.element.ElementKind;
import javax.lang.model.element.Modifier;
import javax.lang.model.type.ArrayType;
import javax.lang.model.type.TypeKind;
import javax.lang.model.type.TypeMirror;
import javax.tools.JavaCompiler;
import javax.tools.StandardJavaFileManager;
import javax.tools.ToolProvider;

/**
 * Those rules of LANGUAGE.md that the source of the program shows by itself (rules 7 and 13 are
 * left to AnyCallsTest). It is narrower than the rules where the program needs less: it throws
 * nothing, loops only with counters and makes objects only in constructors.
 */
public final class LanguageTest {
    private static final Check CHECK = new Check();
    private static final String PROGRAM = "src/main/java/PermitTree.java";

    private static final int MOST_PARAMETERS = 7;
    private static final int MOST_LINES = 60;
    private static final int MOST_CLASSES = 12;
    private static final int MOST_FIELDS = 20;
    private static final int MOST_DEPTH = 8;

    // The constructor of Object is the call that stands unwritten in every constructor.
    private static final Set<String> LIBRARY = Set.of("java.lang.Math.max", "java.lang.Math.min",
            "java.lang.Math.floorMod", "java.lang.Math.floorDiv", "java.lang.System.arraycopy",
            "java.lang.Object.<init>");

    private static final Set<Kind> REFUSED = EnumSet.of(Kind.LAMBDA_EXPRESSION,
            Kind.MEMBER_REFERENCE, Kind.THROW, Kind.TRY, Kind.ASSERT, Kind.SYNCHRONIZED,
            Kind.WHILE_LOOP, Kind.DO_WHILE_LOOP, Kind.IMPORT, Kind.PACKAGE, Kind.INSTANCE_OF,
            Kind.TYPE_CAST, Kind.ANNOTATION, Kind.DOUBLE_LITERAL, Kind.FLOAT_LITERAL);

    private final Trees trees;
    private final CompilationUnitTree unit;
    /** Which own methods each own method calls. */
    private final Map<String, Set<String>> calls = new TreeMap<>();
    private int classes = 0;

    public static void main(String[] args) throws IOException {
        JavaCompiler compiler = ToolProvider.getSystemJavaCompiler();
        try (StandardJavaFileManager files = compiler.getStandardFileManager(null, null, null)) {
            JavacTask task = (JavacTask) compiler.getTask(null, files, null,
                    List.of("--release", "17", "-proc:none"), null,
                    files.getJavaFileObjects(new File(PROGRAM)));
            CompilationUnitTree unit = task.parse().iterator().next();
            task.analyze();
            new LanguageTest(Trees.instance(task), unit).look();
        }
        CHECK.end();
    }

    private LanguageTest(Trees trees, CompilationUnitTree unit) {
        this.trees = trees;
        this.unit = unit;
    }

    private void look() {
        CHECK.due("classes outside the one", unit.getTypeDecls().size(), 1);
        new Eye().scan(unit, null);
        CHECK.due("classes, at most " + MOST_CLASSES, classes <= MOST_CLASSES, true);
        CHECK.due("the eye has seen the methods", calls.containsKey("PermitTree.deliver"), true);
        for (String name : calls.keySet()) {
            String last = name.substring(name.lastIndexOf('.') + 1);
            boolean own = name.equals("PermitTree." + last);
            CHECK.due(name + " has a name of the face", !own && isOfTheFace(last), false);
        }
        CHECK.due("methods that call themselves", recursive().toString(), "[PermitTree.routeFrom]");
        for (String name : calls.keySet()) {
            CHECK.due("depth of calls from " + name, depth(name, new ArrayDeque<>()) <= MOST_DEPTH,
                    true);
        }
    }

    private boolean isOfTheFace(String name) {
        for (Method method : PermitTree.class.getMethods()) {
            if (method.getDeclaringClass() == PermitTree.class && method.getName().equals(name)) {
                return true;
            }
        }
        return false;
    }

    /** Those that are reached again by what they call. */
    private Set<String> recursive() {
        Set<String> found = new TreeSet<>();
        for (String name : calls.keySet()) {
            Set<String> reached = new TreeSet<>();
            Deque<String> open = new ArrayDeque<>(calls.get(name));
            while (!open.isEmpty()) {
                String next = open.pop();
                if (reached.add(next)) {
                    open.addAll(calls.getOrDefault(next, Set.of()));
                }
            }
            if (reached.contains(name)) {
                found.add(name);
            }
        }
        return found;
    }

    /** The longest chain of calls, those of a method to itself left out. */
    private int depth(String name, Deque<String> above) {
        if (above.contains(name)) {
            return 0;
        }
        above.push(name);
        int deepest = 0;
        for (String next : calls.getOrDefault(name, Set.of())) {
            deepest = Math.max(deepest, depth(next, above));
        }
        above.pop();
        return 1 + deepest;
    }

    private final class Eye extends TreePathScanner<Void, Void> {
        private String method = "";

        private Element element() {
            return trees.getElement(getCurrentPath());
        }

        private long line(long position) {
            return unit.getLineMap().getLineNumber(position);
        }

        private String here(Tree tree) {
            long start = trees.getSourcePositions().getStartPosition(unit, tree);
            return "line " + line(start) + ": ";
        }

        @Override
        public Void scan(Tree tree, Void nothing) {
            if (tree != null) {
                String kind = tree.getKind().toString();
                CHECK.due(here(tree) + kind, REFUSED.contains(tree.getKind()), false);
            }
            return super.scan(tree, nothing);
        }

        @Override
        public Void visitClass(ClassTree tree, Void nothing) {
            classes++;
            Set<Modifier> has = tree.getModifiers().getFlags();
            boolean outer = tree.getSimpleName().contentEquals("PermitTree");
            CHECK.due(here(tree) + "a class", tree.getKind().toString(), "CLASS");
            CHECK.due(here(tree) + "public", has.contains(Modifier.PUBLIC), outer);
            CHECK.due(here(tree) + "protected", has.contains(Modifier.PROTECTED), false);
            CHECK.due(here(tree) + "static", has.contains(Modifier.STATIC), !outer);
            CHECK.due(here(tree) + "in a method", method, "");
            int fields = 0;
            for (Tree member : tree.getMembers()) {
                CHECK.due(here(member) + "a block", member.getKind() == Kind.BLOCK, false);
                fields += member instanceof VariableTree field && !isStatic(field) ? 1 : 0;
            }
            CHECK.due(here(tree) + "few fields", fields <= MOST_FIELDS, true);
            return super.visitClass(tree, nothing);
        }

        private boolean isStatic(VariableTree field) {
            return field.getModifiers().getFlags().contains(Modifier.STATIC);
        }

        @Override
        public Void visitMethod(MethodTree tree, Void nothing) {
            method = nameOf(element());
            calls.putIfAbsent(method, new TreeSet<>());
            long first = line(trees.getSourcePositions().getStartPosition(unit, tree));
            long last = line(trees.getSourcePositions().getEndPosition(unit, tree));
            CHECK.due(method + " is short", last - first < MOST_LINES, true);
            CHECK.due(method + " has few parameters",
                    tree.getParameters().size() <= MOST_PARAMETERS, true);
            super.visitMethod(tree, nothing);
            method = "";
            return null;
        }

        @Override
        public Void visitVariable(VariableTree tree, Void nothing) {
            Element variable = element();
            CHECK.due(here(tree) + tree.getName() + " has a type of rule 3",
                    isOfRuleThree(variable.asType()), true);
            if (variable.getKind() == ElementKind.FIELD && isStatic(tree)) {
                CHECK.due(here(tree) + tree.getName() + " is a constant of rule 5",
                        tree.getModifiers().getFlags().contains(Modifier.FINAL)
                        && variable.asType().getKind().isPrimitive(), true);
            }
            return super.visitVariable(tree, nothing);
        }

        private boolean isOfRuleThree(TypeMirror type) {
            if (type.getKind() == TypeKind.ARRAY) {
                TypeMirror each = ((ArrayType) type).getComponentType();
                return each.getKind() != TypeKind.ARRAY && isOfRuleThree(each);
            }
            return type.getKind() == TypeKind.INT || type.getKind() == TypeKind.BOOLEAN
                    || type.toString().startsWith("PermitTree.");
        }

        @Override
        public Void visitForLoop(ForLoopTree tree, Void nothing) {
            CHECK.due(here(tree) + "one counter", tree.getInitializer().size() == 1
                    && tree.getInitializer().get(0) instanceof VariableTree
                    && tree.getUpdate().size() == 1, true);
            String counter = ((VariableTree) tree.getInitializer().get(0)).getName().toString();
            CHECK.due(here(tree) + "it counts", tree.getUpdate().get(0).getExpression()
                    instanceof UnaryTree step && step.getKind() == Kind.POSTFIX_INCREMENT
                    && step.getExpression().toString().equals(counter), true);
            CHECK.due(here(tree) + "against a bound", tree.getCondition()
                    instanceof BinaryTree bound && bound.getKind() == Kind.LESS_THAN
                    && bound.getLeftOperand().toString().equals(counter), true);
            return super.visitForLoop(tree, nothing);
        }

        @Override
        public Void visitMethodInvocation(MethodInvocationTree tree, Void nothing) {
            Element called = trees.getElement(new TreePath(getCurrentPath(),
                    tree.getMethodSelect()));
            String name = nameOf(called);
            if (name.startsWith("PermitTree.")) {
                calls.computeIfAbsent(method, key -> new TreeSet<>()).add(name);
            } else {
                CHECK.due(here(tree) + name + " is in rule 4", LIBRARY.contains(name), true);
            }
            return super.visitMethodInvocation(tree, nothing);
        }

        @Override
        public Void visitNewClass(NewClassTree tree, Void nothing) {
            String name = nameOf(element());
            CHECK.due(here(tree) + name + " is an own class", name.startsWith("PermitTree."), true);
            calls.computeIfAbsent(method, key -> new TreeSet<>()).add(name);
            onlyInConstructors(tree);
            return super.visitNewClass(tree, nothing);
        }

        @Override
        public Void visitNewArray(NewArrayTree tree, Void nothing) {
            onlyInConstructors(tree);
            return super.visitNewArray(tree, nothing);
        }

        private void onlyInConstructors(Tree tree) {
            boolean first = method.isEmpty() || method.endsWith(".<init>");
            CHECK.due(here(tree) + "made in a constructor", first, true);
        }

        /** The full name of the class and the name of the method. */
        private String nameOf(Element of) {
            return of.getEnclosingElement() + "." + of.getSimpleName();
        }
    }
}
