import com.sun.source.tree.BinaryTree;
import com.sun.source.tree.BlockTree;
import com.sun.source.tree.ClassTree;
import com.sun.source.tree.CompilationUnitTree;
import com.sun.source.tree.ImportTree;
import com.sun.source.tree.MethodInvocationTree;
import com.sun.source.tree.MethodTree;
import com.sun.source.tree.NewArrayTree;
import com.sun.source.tree.NewClassTree;
import com.sun.source.tree.Tree;
import com.sun.source.tree.VariableTree;
import com.sun.source.util.JavacTask;
import com.sun.source.util.TreePath;
import com.sun.source.util.TreePathScanner;
import com.sun.source.util.Trees;
import java.lang.reflect.Field;
import java.lang.reflect.Method;
import java.lang.reflect.Modifier;
import java.nio.file.Path;
import java.util.Arrays;
import java.util.EnumSet;
import java.util.HashMap;
import java.util.List;
import java.util.Map;
import java.util.Set;
import java.util.TreeMap;
import java.util.TreeSet;
import javax.lang.model.element.Element;
import javax.lang.model.element.ElementKind;
import javax.lang.model.element.ExecutableElement;
import javax.lang.model.type.TypeMirror;
import javax.tools.JavaCompiler;
import javax.tools.StandardJavaFileManager;
import javax.tools.ToolProvider;

/** The face of the class, and the rules of LANGUAGE.md as far as this program goes into its part of Java. */
public final class LanguageTest {
    private static final String FILE = "src/main/java/CoalWagons.java";
    private static final List<String> FACE = List.of("mine(int)", "leg(int,int,int)", "wagon(int)", "load(int)", "unload(int)",
        "repair(int)", "train(int,int,int,int)", "pass(int)", "set(int,int)", "wagonOf(int,int)", "placeOf(int,int)",
        "days(int,int)", "would(int,int)", "lacks(int)", "bestTrain(int)", "share(int)", "count(int)", "undo()", "type(int)",
        "clearText()", "fault(int)", "play()");
    private static final Map<String, Integer> CONSTANTS = Map.of("INVALID_ARGUMENT", -2000000001, "NOT_POSSIBLE", -2000000002,
        "LIMIT_REACHED", -2000000003, "NOT_FOUND", -2000000004);
    private static final Set<String> LIBRARY = Set.of("java.lang.Math.min", "java.lang.Math.max", "java.lang.Math.floorMod",
        "java.lang.System.arraycopy", "java.lang.Integer.bitCount", "java.lang.Object.<init>");
    private static final Set<Tree.Kind> FORBIDDEN = EnumSet.of(Tree.Kind.LAMBDA_EXPRESSION, Tree.Kind.MEMBER_REFERENCE,
        Tree.Kind.SWITCH_EXPRESSION, Tree.Kind.TRY, Tree.Kind.CATCH, Tree.Kind.THROW, Tree.Kind.SYNCHRONIZED, Tree.Kind.ASSERT,
        Tree.Kind.INSTANCE_OF, Tree.Kind.ANNOTATION, Tree.Kind.STRING_LITERAL, Tree.Kind.DIVIDE_ASSIGNMENT, Tree.Kind.REMAINDER,
        Tree.Kind.REMAINDER_ASSIGNMENT, Tree.Kind.PARAMETERIZED_TYPE, Tree.Kind.NULL_LITERAL);

    private static int wrong = 0;
    private static int asked = 0;

    public static void main(String[] args) throws Exception {
        face();
        new Reader().read();
        System.out.println(asked + " looks at the program, " + wrong + " wrong");
        if (wrong != 0) {
            System.exit(1);
        }
    }

    private static void check(boolean good, String what) {
        asked++;
        if (!good) {
            wrong++;
            System.out.println(what);
        }
    }

    private static void face() throws Exception {
        Class<?> program = CoalWagons.class;
        check(Modifier.isPublic(program.getModifiers()) && Modifier.isFinal(program.getModifiers()), "rule 1: public and final");
        check(program.getDeclaredConstructors().length == 1 && program.getConstructors().length == 1
            && program.getConstructors()[0].getParameterCount() == 0, "rule 1: one public constructor");
        Set<String> open = new TreeSet<>();
        Set<String> names = new TreeSet<>();
        for (Method m : program.getDeclaredMethods()) {
            String told = m.getName() + Arrays.toString(m.getParameterTypes()).replace("[", "(").replace("]", ")").replace(" ", "");
            if (!Modifier.isPrivate(m.getModifiers())) {
                open.add(told);
                names.add(m.getName());
                check(m.getReturnType() == int.class && !Modifier.isStatic(m.getModifiers()), "rule 1: " + told);
            }
        }
        check(open.equals(new TreeSet<>(FACE)), "rule 1: the methods are " + open);
        for (Class<?> inside : program.getDeclaredClasses()) {
            check(Modifier.isStatic(inside.getModifiers()) && !Modifier.isPublic(inside.getModifiers())
                && !Modifier.isProtected(inside.getModifiers()), "rule 1: " + inside);
            for (Method m : inside.getDeclaredMethods()) {
                check(!names.contains(m.getName()), "rule 1: a name of the face in " + inside + ": " + m.getName());
            }
        }
        for (Method m : program.getDeclaredMethods()) {
            check(!Modifier.isPrivate(m.getModifiers()) || !names.contains(m.getName()), "rule 1: private " + m.getName());
        }
        Map<String, Integer> constants = new HashMap<>();
        for (Field f : program.getDeclaredFields()) {
            if (!Modifier.isPrivate(f.getModifiers())) {
                constants.put(f.getName(), f.getInt(null));
                check(f.getModifiers() == (Modifier.PUBLIC | Modifier.STATIC | Modifier.FINAL) && f.getType() == int.class,
                    "rule 1: " + f);
            }
        }
        check(constants.equals(CONSTANTS), "rule 1: the constants are " + constants);
    }

    /** Reads the program as the compiler does. */
    private static final class Reader extends TreePathScanner<Void, Void> {
        private final Map<Element, Set<Element>> calls = new HashMap<>();
        private final Map<Element, Integer> depths = new HashMap<>();
        private final Set<String> own = new TreeSet<>();
        private Trees trees;
        private CompilationUnitTree unit;
        private int classes;

        void read() throws Exception {
            JavaCompiler compiler = ToolProvider.getSystemJavaCompiler();
            try (StandardJavaFileManager files = compiler.getStandardFileManager(null, null, null)) {
                JavacTask task = (JavacTask) compiler.getTask(null, files, null, List.of("-proc:none"), null,
                    files.getJavaFileObjects(Path.of(FILE)));
                trees = Trees.instance(task);
                unit = task.parse().iterator().next();
                task.analyze();
                check(unit.getPackageName() == null && unit.getTypeDecls().size() == 1, "one class without a package");
                scan(new TreePath(unit), null);
            }
            check(classes <= 12, "rule 11: " + classes + " classes");
            Map<Integer, String> deepest = new TreeMap<>();
            for (Element method : calls.keySet()) {
                deepest.put(depth(method, 0), method.toString());
            }
            System.out.println("calls go " + deepest.keySet().stream().reduce((a, b) -> b).orElse(0) + " deep");
        }

        private String where(Tree tree) {
            return "line " + unit.getLineMap().getLineNumber(trees.getSourcePositions().getStartPosition(unit, tree)) + ": ";
        }

        private long lineOfEnd(Tree tree) {
            return unit.getLineMap().getLineNumber(trees.getSourcePositions().getEndPosition(unit, tree));
        }

        private long lineOfStart(Tree tree) {
            return unit.getLineMap().getLineNumber(trees.getSourcePositions().getStartPosition(unit, tree));
        }

        /** The calls that stand open at once at most, this one and those of the library included. */
        private int depth(Element method, int above) {
            check(above < 50, "rule 8: a recursion through " + method);
            if (above >= 50) {
                return 0;
            }
            Integer known = depths.get(method);
            if (known != null) {
                return known;
            }
            int most = 0;
            for (Element called : calls.getOrDefault(method, Set.of())) {
                most = Math.max(most, depth(called, above + 1));
            }
            depths.put(method, most + 1);
            check(most + 1 <= 8, "rule 11: calls from " + method + " go " + (most + 1) + " deep");
            return most + 1;
        }

        private Element methodAround() {
            for (TreePath path = getCurrentPath(); path != null; path = path.getParentPath()) {
                if (path.getLeaf() instanceof MethodTree) {
                    return trees.getElement(path);
                }
            }
            return null;
        }

        @Override
        public Void scan(Tree tree, Void nothing) {
            if (tree != null) {
                check(!FORBIDDEN.contains(tree.getKind()), tree.getKind() + " is not in this program's part of the language");
            }
            return super.scan(tree, nothing);
        }

        @Override
        public Void visitImport(ImportTree tree, Void nothing) {
            check(false, where(tree) + "rule 4: an import");
            return super.visitImport(tree, nothing);
        }

        @Override
        public Void visitClass(ClassTree tree, Void nothing) {
            classes++;
            int fields = 0;
            for (Tree member : tree.getMembers()) {
                check(!(member instanceof BlockTree), where(member) + "rule 5: an initialiser block");
                if (member instanceof VariableTree && !((VariableTree) member).getModifiers().getFlags()
                    .contains(javax.lang.model.element.Modifier.STATIC)) {
                    fields++;
                }
            }
            check(fields <= 20, where(tree) + "rule 11: " + fields + " fields");
            return super.visitClass(tree, nothing);
        }

        @Override
        public Void visitMethod(MethodTree tree, Void nothing) {
            check(tree.getParameters().size() <= 7, where(tree) + "rule 11: parameters");
            check(lineOfEnd(tree) - lineOfStart(tree) < 60, where(tree) + "rule 11: a long method");
            calls.computeIfAbsent(trees.getElement(getCurrentPath()), k -> new java.util.HashSet<>());
            return super.visitMethod(tree, nothing);
        }

        @Override
        public Void visitVariable(VariableTree tree, Void nothing) {
            Element variable = trees.getElement(getCurrentPath());
            String type = variable.asType().toString();
            boolean mine = type.startsWith("CoalWagons");
            check(mine || Set.of("int", "boolean", "float", "int[]").contains(type), where(tree) + "rule 3: " + type);
            check(!type.contains("[][]"), where(tree) + "rule 3: " + type);
            if (variable.getModifiers().contains(javax.lang.model.element.Modifier.STATIC)) {
                check(variable.getModifiers().contains(javax.lang.model.element.Modifier.FINAL), where(tree) + "rule 5: not final");
                check(!mine, where(tree) + "rule 5: a static object");
            }
            return super.visitVariable(tree, nothing);
        }

        @Override
        public Void visitMethodInvocation(MethodInvocationTree tree, Void nothing) {
            call(trees.getElement(getCurrentPath()), tree);
            return super.visitMethodInvocation(tree, nothing);
        }

        @Override
        public Void visitNewClass(NewClassTree tree, Void nothing) {
            call(trees.getElement(getCurrentPath()), tree);
            made(tree);
            return super.visitNewClass(tree, nothing);
        }

        @Override
        public Void visitNewArray(NewArrayTree tree, Void nothing) {
            Element around = methodAround();
            // Those written out in an initialiser are the constants.
            check(around == null || around.getKind() == ElementKind.CONSTRUCTOR, where(tree) + "rule 12: rows are made once");
            return super.visitNewArray(tree, nothing);
        }

        private void made(Tree tree) {
            Element around = methodAround();
            check(around != null && around.getKind() == ElementKind.CONSTRUCTOR, where(tree) + "rule 12: objects are made once");
        }

        private void call(Element called, Tree tree) {
            String owner = called.getEnclosingElement().toString();
            if (!owner.startsWith("CoalWagons")) {
                String name = owner + "." + called.getSimpleName();
                check(LIBRARY.contains(name), where(tree) + "rule 4: " + name);
            }
            check(((ExecutableElement) called).getThrownTypes().isEmpty(), where(tree) + "rule 6: " + called);
            Element around = methodAround();
            if (around != null) {
                calls.computeIfAbsent(around, k -> new java.util.HashSet<>()).add(called);
            }
        }

        @Override
        public Void visitBinary(BinaryTree tree, Void nothing) {
            if (tree.getKind() == Tree.Kind.DIVIDE) {
                TypeMirror type = trees.getTypeMirror(getCurrentPath());
                boolean constant = Set.of("WAGON_TONNES").contains(tree.getRightOperand().toString());
                check(constant || type.toString().equals("float"), where(tree) + "rule 7: a divisor that may be 0");
            }
            return super.visitBinary(tree, nothing);
        }
    }
}
