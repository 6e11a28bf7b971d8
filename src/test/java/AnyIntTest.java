import java.lang.reflect.Method;
import java.lang.reflect.Modifier;
import java.util.Arrays;

/**
 * Every method with every pair of ints from the edges of its arguments, on a new object, on one
 * with something everywhere, and on one with 60 clauses. The answers have to be those of the
 * reference, and a call that throws must leave everything as it was.
 */
public final class AnyIntTest {
    private static final Check CHECK = new Check("AnyIntTest");
    private static final int[] INTS = {Integer.MIN_VALUE, -4096, -1, 0, 1, 2, 3, 4, 5, 6, 15, 16,
        31, 32, 34, 35, 59, 60, 99, 100, 500, 4095, 4096, Integer.MAX_VALUE};
    private static final String[] NOTHING = {};
    private static final String[] SOME_OF_ALL = {"addClause 3 0", "addClause 0 1", "addClause 4 2",
        "addClause 8 4", "resolve 0 1", "save 1", "resolve 2 4", "negateVariable 2",
        "writeClause 0", "append 1684170528 807415346 1702191205 539779584 0"};

    public static void main(String[] args) {
        for (String[] calls : new String[][] {NOTHING, SOME_OF_ALL, full()}) {
            for (Method method : ResolutionProver.class.getDeclaredMethods()) {
                if (Modifier.isPublic(method.getModifiers())) {
                    askAll(calls, method);
                }
            }
        }
        CHECK.end();
    }

    /** The numbers 1 to 60 to the base 3: a digit tells how a variable stands in the clause. */
    private static String[] full() {
        String[] calls = new String[62];
        for (int number = 1; number <= 60; number++) {
            int positive = 0;
            int negative = 0;
            int rest = number;
            for (int bit = 1; rest > 0; bit *= 2) {
                positive |= rest % 3 == 1 ? bit : 0;
                negative |= rest % 3 == 2 ? bit : 0;
                rest /= 3;
            }
            calls[number - 1] = "addClause " + positive + " " + negative;
        }
        calls[60] = "save 0";
        calls[61] = "writeClause 59";
        return calls;
    }

    private static void askAll(String[] calls, Method method) {
        int parameters = method.getParameterCount();
        for (int first : parameters == 0 ? new int[1] : INTS) {
            for (int second : parameters < 2 ? new int[1] : INTS) {
                Object[] arguments = new Object[parameters];
                for (int k = 0; k < parameters; k++) {
                    boolean isFlag = method.getParameterTypes()[k] == boolean.class;
                    arguments[k] = isFlag ? (Object) (second > 4) : k == 0 ? first : second;
                }
                ask(calls, method, arguments);
            }
        }
    }

    private static void ask(String[] calls, Method method, Object[] arguments) {
        String what = method.getName() + Arrays.toString(arguments);
        ResolutionProver x = new ResolutionProver();
        Reference reference = new Reference();
        prepare(x, calls);
        prepare(reference, calls);
        String got = Answer.of(x, method, arguments);
        CHECK.same(what, got, Answer.of(reference, same(method), arguments));
        boolean isParser = method.getName().equals("load") || method.getName().equals("play");
        if (got.startsWith("java.lang.") && !isParser) {
            ResolutionProver untouched = new ResolutionProver();
            prepare(untouched, calls);
            CHECK.same("what is left of " + what, Everything.of(x), Everything.of(untouched));
        }
    }

    private static Method same(Method method) {
        try {
            return Reference.class.getMethod(method.getName(), method.getParameterTypes());
        } catch (NoSuchMethodException e) {
            throw new IllegalStateException(e);
        }
    }

    private static void prepare(Object object, String[] calls) {
        for (String call : calls) {
            String[] words = call.split(" ");
            Object[] arguments = new Object[words.length - 1];
            for (int k = 0; k < arguments.length; k++) {
                arguments[k] = Integer.parseInt(words[k + 1]);
            }
            for (Method method : object.getClass().getDeclaredMethods()) {
                if (method.getName().equals(words[0])
                    && Modifier.isPublic(method.getModifiers())) {
                    Answer.of(object, method, arguments);
                }
            }
        }
    }
}
