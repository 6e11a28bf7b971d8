import com.sun.source.tree.AssignmentTree;
import com.sun.source.tree.BinaryTree;
import com.sun.source.tree.ClassTree;
import com.sun.source.tree.CompilationUnitTree;
import com.sun.source.tree.DoWhileLoopTree;
import com.sun.source.tree.ExpressionTree;
import com.sun.source.tree.ForLoopTree;
import com.sun.source.tree.LiteralTree;
import com.sun.source.tree.MethodInvocationTree;
import com.sun.source.tree.MethodTree;
import com.sun.source.tree.NewArrayTree;
import com.sun.source.tree.NewClassTree;
import com.sun.source.tree.ThrowTree;
import com.sun.source.tree.Tree;
import com.sun.source.tree.VariableTree;
import com.sun.source.tree.WhileLoopTree;
import com.sun.source.util.JavacTask;
import com.sun.source.util.TreePath;
import com.sun.source.util.TreePathScanner;
import com.sun.source.util.Trees;
import java.io.IOException;
import java.nio.file.Files;
import java.nio.file.Path;
import java.util.ArrayList;
import java.util.EnumSet;
import java.util.HashMap;
import java.util.List;
import java.util.Map;
import java.util.Set;
import java.util.TreeSet;
import javax.lang.model.element.Element;
import javax.lang.model.element.Modifier;
import javax.lang.model.type.TypeMirror;
import javax.tools.JavaCompiler;
import javax.tools.StandardJavaFileManager;
import javax.tools.ToolProvider;

/**
 * The source keeps to the rules of LANGUAGE.md, as far as the compiler's tree of it can tell. Rule 1
 * is FaceTest's, and rule 7 (no call ever throws by itself) is asked of the calls: by AnyIntTest and
 * RandomRunsTest above all.
 */
public final class LanguageTest {
    private static final Check CHECK = new Check("LanguageTest");
    private static final Path SOURCE = Path.of("src/main/java/ResolutionProver.java");
    private static final Set<String> TYPES = Set.of("void", "int", "long", "boolean", "double",
        "int[]", "byte[]", "boolean[]", "java.lang.String");
    private static final Set<String> LIBRARY = Set.of("java.lang.Math.max", "java.lang.Math.min",
        "java.lang.Integer.bitCount", "java.lang.Integer.numberOfTrailingZeros",
        "java.lang.Long.bitCount", "java.lang.System.arraycopy", "java.lang.String.length",
        "java.lang.String.charAt", "java.lang.Object.<init>");
    private static final Set<String> THROWN = Set.of("IllegalStateException",
        "IllegalArgumentException", "IndexOutOfBoundsException");
    private static final Set<Tree.Kind> RULED_OUT = EnumSet.of(Tree.Kind.LAMBDA_EXPRESSION,
        Tree.Kind.MEMBER_REFERENCE, Tree.Kind.IMPORT, Tree.Kind.PACKAGE, Tree.Kind.TRY,
        Tree.Kind.CATCH, Tree.Kind.SYNCHRONIZED, Tree.Kind.ASSERT, Tree.Kind.INSTANCE_OF,
        Tree.Kind.SWITCH, Tree.Kind.SWITCH_EXPRESSION, Tree.Kind.ANNOTATION,
        Tree.Kind.PARAMETERIZED_TYPE, Tree.Kind.REMAINDER, Tree.Kind.REMAINDER_ASSIGNMENT,
        Tree.Kind.DIVIDE_ASSIGNMENT);
    private static final int MOST_LINES = 60;
    private static final int MOST_PARAMETERS = 7;
    private static final int MOST_CLASSES = 12;
    private static final int MOST_FIELDS = 20;
    private static final int MOST_CALLS_DEEP = 8;

    private final CompilationUnitTree unit;
    private final Trees trees;
    private final List<TreePath> paths = new ArrayList<>();
    /** The methods that each method calls, constructors among them. */
    private final Map<Element, List<Element>> called = new HashMap<>();

    private LanguageTest(CompilationUnitTree unit, Trees trees) {
        this.unit = unit;
        this.trees = trees;
        new TreePathScanner<Void, Void>() {
            @Override
            public Void scan(Tree tree, Void none) {
                if (tree != null && getCurrentPath() != null) {
                    paths.add(new TreePath(getCurrentPath(), tree));
                }
                return super.scan(tree, none);
            }
        }.scan(new TreePath(unit), null);
    }

    public static void main(String[] args) throws IOException {
        JavaCompiler compiler = ToolProvider.getSystemJavaCompiler();
        StandardJavaFileManager files = compiler.getStandardFileManager(null, null, null);
        JavacTask task = (JavacTask) compiler.getTask(null, files, null,
            List.of("--release", "17", "-proc:none"), null, files.getJavaFileObjects(SOURCE));
        CompilationUnitTree unit = task.parse().iterator().next();
        task.analyze();
        LanguageTest test = new LanguageTest(unit, Trees.instance(task));
        test.kinds();
        test.classes();
        test.types();
        test.doubles();
        test.calls();
        test.staticFields();
        test.exceptions();
        test.loops();
        test.depth();
        test.methods();
        test.objects();
        test.signs();
        CHECK.end();
    }

    private String where(TreePath path) {
        long position = trees.getSourcePositions().getStartPosition(unit, path.getLeaf());
        return "line " + unit.getLineMap().getLineNumber(position);
    }

    /** Returns the nearest tree around this one that is of such a class; null without one. */
    private static <T extends Tree> T around(TreePath path, Class<T> kind) {
        for (TreePath outer = path.getParentPath(); outer != null; outer = outer.getParentPath()) {
            if (kind.isInstance(outer.getLeaf())) {
                return kind.cast(outer.getLeaf());
            }
        }
        return null;
    }

    private static boolean isConstructor(MethodTree method) {
        return method != null && method.getName().contentEquals("<init>");
    }

    // ---- rules 2, 6, 8 and 13: what does not stand in the source

    private void kinds() {
        for (TreePath path : paths) {
            Tree.Kind kind = path.getLeaf().getKind();
            CHECK.no(where(path) + " has a " + kind, RULED_OUT.contains(kind));
        }
        CHECK.equal("types in the file", unit.getTypeDecls().size(), 1);
    }

    // ---- rules 2 and 11

    private void classes() {
        int found = 0;
        for (TreePath path : paths) {
            if (path.getLeaf() instanceof ClassTree inside) {
                found++;
                Tree outer = path.getParentPath().getLeaf();
                CHECK.yes(where(path) + " is a class of the file or of the class itself",
                    outer == unit || outer == unit.getTypeDecls().get(0));
                CHECK.yes(where(path) + " is static", outer == unit
                    || inside.getModifiers().getFlags().contains(Modifier.STATIC));
                int fields = 0;
                for (Tree member : inside.getMembers()) {
                    CHECK.no(where(path) + " has an initialiser block",
                        member.getKind() == Tree.Kind.BLOCK);
                    fields += member instanceof VariableTree field
                        && !field.getModifiers().getFlags().contains(Modifier.STATIC) ? 1 : 0;
                }
                CHECK.yes(where(path) + " has some twenty fields", fields <= MOST_FIELDS);
            }
        }
        CHECK.yes("some twelve classes", found > 1 && found <= MOST_CLASSES);
    }

    // ---- rule 3

    private void types() {
        Set<String> own = new TreeSet<>();
        for (TreePath path : paths) {
            if (path.getLeaf() instanceof ClassTree) {
                own.add(trees.getTypeMirror(path).toString());
                own.add(trees.getTypeMirror(path) + "[]");
            }
        }
        for (TreePath path : paths) {
            Tree type = path.getLeaf() instanceof VariableTree variable ? variable.getType()
                : path.getLeaf() instanceof MethodTree method ? method.getReturnType() : null;
            if (type != null) {
                String name = trees.getTypeMirror(new TreePath(path, type)).toString();
                CHECK.yes(where(path) + " has the type " + name,
                    TYPES.contains(name) || own.contains(name));
            }
        }
    }

    /** A double stands in the face's modelShare alone: two casts, and a division of them. */
    private void doubles() {
        for (TreePath path : paths) {
            TypeMirror type = path.getLeaf() instanceof ExpressionTree ? trees.getTypeMirror(path)
                : null;
            if (type != null && type.toString().equals("double")) {
                MethodTree method = around(path, MethodTree.class);
                CHECK.same(where(path) + " with a double stands in",
                    method == null ? "no method" : method.getName().toString(), "modelShare");
            }
            boolean isDivision = path.getLeaf().getKind() == Tree.Kind.DIVIDE;
            CHECK.yes(where(path) + " divides doubles",
                !isDivision || trees.getTypeMirror(path).toString().equals("double"));
        }
    }

    // ---- rule 4

    private void calls() {
        for (TreePath path : paths) {
            if (path.getLeaf() instanceof MethodInvocationTree call) {
                Element method =
                    trees.getElement(new TreePath(path, call.getMethodSelect()));
                String owner = method.getEnclosingElement().toString();
                if (!owner.startsWith("ResolutionProver")) {
                    String name = owner + "." + method.getSimpleName();
                    CHECK.yes(where(path) + " calls " + name, LIBRARY.contains(name));
                }
            }
        }
    }

    // ---- rule 5

    private void staticFields() {
        Set<String> constants = Set.of("int", "long", "boolean", "char", "java.lang.String");
        for (TreePath path : paths) {
            if (path.getLeaf() instanceof VariableTree field
                && field.getModifiers().getFlags().contains(Modifier.STATIC)) {
                CHECK.yes(where(path) + " is final",
                    field.getModifiers().getFlags().contains(Modifier.FINAL));
                CHECK.yes(where(path) + " is a constant",
                    constants.contains(trees.getTypeMirror(path).toString()));
            }
        }
    }

    // ---- rule 6

    private void exceptions() {
        for (TreePath path : paths) {
            if (path.getLeaf() instanceof ThrowTree thrown) {
                boolean isMade = thrown.getExpression() instanceof NewClassTree;
                CHECK.yes(where(path) + " throws what it makes", isMade);
                if (isMade) {
                    NewClassTree made = (NewClassTree) thrown.getExpression();
                    CHECK.yes(where(path) + " throws what may be thrown",
                        THROWN.contains(made.getIdentifier().toString()));
                    CHECK.yes(where(path) + " has a written text", made.getArguments().size() == 1
                        && made.getArguments().get(0) instanceof LiteralTree);
                }
                CHECK.no(where(path) + " throws in a constructor",
                    isConstructor(around(path, MethodTree.class)));
            }
        }
    }

    // ---- rule 9

    private void loops() {
        for (TreePath path : paths) {
            Tree loop = path.getLeaf();
            if (loop instanceof WhileLoopTree || loop instanceof DoWhileLoopTree
                || loop instanceof ForLoopTree) {
                ExpressionTree condition = loop instanceof WhileLoopTree inFront
                    ? inFront.getCondition() : loop instanceof DoWhileLoopTree behind
                    ? behind.getCondition() : ((ForLoopTree) loop).getCondition();
                CHECK.yes(where(path) + " compares a counter with a bound", condition != null
                    && condition.toString().matches("(?s).*(<=|>=|<|>).*"));
            }
        }
    }

    // ---- rules 8 and 11: no call leads back to itself, and none goes too deep

    private void depth() {
        for (TreePath path : paths) {
            Tree tree = path.getLeaf();
            MethodTree method = around(path, MethodTree.class);
            Element callee = tree instanceof MethodInvocationTree call
                ? trees.getElement(new TreePath(path, call.getMethodSelect()))
                : tree instanceof NewClassTree ? trees.getElement(path) : null;
            if (callee != null && method != null) {
                Element caller = trees.getElement(trees.getPath(unit, method));
                called.computeIfAbsent(caller, key -> new ArrayList<>()).add(callee);
            }
        }
        int deepest = 0;
        for (Element method : called.keySet()) {
            deepest = Math.max(deepest, callsFrom(method, 1));
        }
        CHECK.yes("calls go " + deepest + " deep", deepest > 3 && deepest <= MOST_CALLS_DEEP);
    }

    private int callsFrom(Element method, int level) {
        int deepest = level;
        if (level <= 2 * MOST_CALLS_DEEP) {
            for (Element next : called.getOrDefault(method, List.of())) {
                deepest = Math.max(deepest, callsFrom(next, level + 1));
            }
        }
        return deepest;
    }

    // ---- rules 10 and 11

    private void methods() {
        for (TreePath path : paths) {
            if (path.getLeaf() instanceof BinaryTree binary
                && binary.getKind() == Tree.Kind.PLUS) {
                CHECK.no(where(path) + " joins texts",
                    trees.getTypeMirror(path).toString().equals("java.lang.String"));
            }
            if (path.getLeaf() instanceof MethodTree method) {
                CHECK.yes(where(path) + " has few parameters",
                    method.getParameters().size() <= MOST_PARAMETERS);
                long start = trees.getSourcePositions().getStartPosition(unit, method);
                long end = trees.getSourcePositions().getEndPosition(unit, method);
                // A constructor that the source does not write has no end.
                CHECK.yes(where(path) + " is short", end < start
                    || unit.getLineMap().getLineNumber(end)
                        - unit.getLineMap().getLineNumber(start) < MOST_LINES);
            }
        }
    }

    // ---- rule 12: but for exceptions, objects and rows are made once, for a new prover

    private void objects() {
        int made = 0;
        for (TreePath path : paths) {
            if (path.getLeaf() instanceof NewClassTree || path.getLeaf() instanceof NewArrayTree) {
                made++;
                MethodTree method = around(path, MethodTree.class);
                boolean isThrown = path.getParentPath().getLeaf() instanceof ThrowTree;
                CHECK.yes(where(path) + " makes an object in a constructor or for a field",
                    isThrown || method == null || isConstructor(method));
            }
            if (path.getLeaf() instanceof AssignmentTree assignment && isConstructor(
                around(path, MethodTree.class))) {
                CHECK.no(where(path) + " hands out the object",
                    assignment.getExpression().toString().equals("this"));
            }
        }
        CHECK.yes("objects are made", made > 20);
    }

    // ---- rule 4

    private void signs() throws IOException {
        CHECK.yes("all signs are 1 to 127",
            Files.readString(SOURCE).chars().allMatch(sign -> sign > 0 && sign < 128));
    }
}
