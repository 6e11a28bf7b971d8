import java.lang.reflect.Method;
import java.lang.reflect.Modifier;
import java.util.Arrays;
import java.util.Comparator;
import java.util.HashMap;
import java.util.Map;
import java.util.function.Supplier;

/**
 * Every method with every pair of ints from the edges of its arguments, on a new object, on one
 * with something everywhere, and on one with 60 clauses. The answers have to be those of the
 * reference, and a call that throws must leave everything as it was.
 */
public final class AnyIntTest {
    private static final Check CHECK = new Check("AnyIntTest");
    private static final int[] INTS = {Integer.MIN_VALUE, -4096, -1, 0, 1, 2, 3, 4, 5, 6, 15, 16,
        31, 32, 34, 35, 59, 60, 99, 100, 500, 4095, 4096, Integer.MAX_VALUE};
    private static final String[] NOTHING = {};
    private static final String[] SOME_OF_ALL = {"addClause 3 0", "addClause 0 1", "addClause 4 2",
        "addClause 8 4", "resolve 0 1", "save 1", "resolve 2 4", "negateVariable 2",
        "writeClause 0", "append 1684170528 807415346 1702191205 539779584 0"};
    private static final Map<String, Method> FACE = publicMethods(ResolutionProver.class);
    private static final Map<String, Method> OF_REFERENCE = publicMethods(Reference.class);

    /** What the objects hear before they are asked, and what they tell then. */
    private final String[] names;
    private final Object[][] arguments;
    private final String before;

    private AnyIntTest(String[] calls) {
        names = new String[calls.length];
        arguments = new Object[calls.length][];
        for (int k = 0; k < calls.length; k++) {
            String[] words = calls[k].split(" ");
            names[k] = words[0];
            arguments[k] = new Object[words.length - 1];
            for (int place = 1; place < words.length; place++) {
                arguments[k][place - 1] = Integer.parseInt(words[place]);
            }
        }
        before = Everything.of(this::prepared);
    }

    public static void main(String[] args) {
        CHECK.equal("methods", FACE.size(), 64);
        Method[] methods = FACE.values().toArray(new Method[0]);
        Arrays.sort(methods, Comparator.comparing(Method::getName));
        for (String[] calls : new String[][] {NOTHING, SOME_OF_ALL, full()}) {
            AnyIntTest test = new AnyIntTest(calls);
            for (Method method : methods) {
                test.askAll(method);
            }
        }
        CHECK.end();
    }

    /** The numbers 1 to 60 to the base 3: a digit tells how a variable stands in the clause. */
    private static String[] full() {
        String[] calls = new String[62];
        for (int number = 1; number <= 60; number++) {
            int positive = 0;
            int negative = 0;
            int rest = number;
            for (int bit = 1; rest > 0; bit *= 2) {
                positive |= rest % 3 == 1 ? bit : 0;
                negative |= rest % 3 == 2 ? bit : 0;
                rest /= 3;
            }
            calls[number - 1] = "addClause " + positive + " " + negative;
        }
        calls[60] = "save 0";
        calls[61] = "writeClause 59";
        return calls;
    }

    private static Map<String, Method> publicMethods(Class<?> of) {
        Map<String, Method> methods = new HashMap<>();
        for (Method method : of.getDeclaredMethods()) {
            if (Modifier.isPublic(method.getModifiers())) {
                methods.put(method.getName(), method);
            }
        }
        return methods;
    }

    private void askAll(Method method) {
        int parameters = method.getParameterCount();
        for (int first : parameters == 0 ? new int[1] : INTS) {
            for (int second : parameters < 2 ? new int[1] : INTS) {
                Object[] these = new Object[parameters];
                for (int k = 0; k < parameters; k++) {
                    boolean isFlag = method.getParameterTypes()[k] == boolean.class;
                    these[k] = isFlag ? (Object) (second > 4) : k == 0 ? first : second;
                }
                ask(method, these);
            }
        }
    }

    private void ask(Method method, Object[] these) {
        String what = method.getName() + Arrays.toString(these);
        Reference reference = new Reference();
        prepare(reference, OF_REFERENCE);
        String got = Answer.of(prepared(), method, these);
        String due = Answer.of(reference, OF_REFERENCE.get(method.getName()), these);
        CHECK.same(what, got, due);
        boolean isParser = method.getName().equals("load") || method.getName().equals("play");
        if (got.startsWith("java.lang.") && !isParser) {
            Supplier<ResolutionProver> asked =
                Check.behind(this::prepared, x -> Answer.of(x, method, these));
            CHECK.same("what is left of " + what, Everything.of(asked), before);
        }
    }

    private ResolutionProver prepared() {
        ResolutionProver x = new ResolutionProver();
        prepare(x, FACE);
        return x;
    }

    private void prepare(Object object, Map<String, Method> methods) {
        for (int k = 0; k < names.length; k++) {
            Answer.of(object, methods.get(names[k]), arguments[k]);
        }
    }
}
