import java.lang.reflect.Method;
import java.lang.reflect.Modifier;
import java.util.ArrayList;
import java.util.Arrays;
import java.util.Comparator;
import java.util.List;
import java.util.Random;
import java.util.Set;

/**
 * Runs of random calls on the prover and on the reference side by side, always the same ones; every
 * answer has to be the same, and after each change every answer without an argument, too. A prover
 * is used for 512 calls at most, so that these answers are asked of copies: new provers that have
 * heard the same changes.
 */
public final class RandomRunsTest {
    private static final Check CHECK = new Check("RandomRunsTest");
    private static final int RUNS = 400;
    private static final int CALLS = 120;
    private static final int MOST_CALLS_OF_AN_OBJECT = 512;
    /** Of truncate, append (25 times), truncate, load, parseError and parseErrorPosition. */
    private static final int CALLS_OF_A_TEXT = 30;
    /** More than this leaves a copy too few calls for questions. */
    private static final int MOST_HEARD = 400;
    private static final Set<String> CHANGES_SOMETHING = Set.of("append", "truncate", "load",
        "play", "addClause", "resolve", "saturate", "dropClause", "negateVariable", "reduce",
        "undo", "save", "restore", "writeClause");
    private static final String[] CHANGES = {"addClause", "addClause", "addClause", "addClause",
        "resolve", "resolve", "saturate", "dropClause", "negateVariable", "reduce", "undo", "undo",
        "save", "restore"};

    private final Random random;
    private final ResolutionProver prover = new ResolutionProver();
    private int calls = 0;
    private ResolutionProver copy = null;
    private int callsOfCopy = 0;
    private final Reference reference = new Reference();
    private final List<Method> methods;
    private final StringBuilder told = new StringBuilder();
    /** The calls that a copy has to hear, and their arguments. */
    private final List<Method> heard = new ArrayList<>();
    private final List<Object[]> heardArguments = new ArrayList<>();
    /** How many letters and how many clauses the texts are to use. */
    private int letters = 4;
    private int numbers = 8;

    private RandomRunsTest(int seed, List<Method> methods) {
        random = new Random(seed);
        this.methods = methods;
    }

    public static void main(String[] args) {
        List<Method> methods = new ArrayList<>();
        for (Method method : ResolutionProver.class.getDeclaredMethods()) {
            if (Modifier.isPublic(method.getModifiers())) {
                methods.add(method);
            }
        }
        // The order of reflection is not promised, and the runs are to be the same ones.
        methods.sort(Comparator.comparing(Method::getName));
        CHECK.equal("methods", methods.size(), 64);
        int wrongRuns = 0;
        for (int seed = 0; seed < RUNS && wrongRuns < 5; seed++) {
            if (!new RandomRunsTest(seed, methods).run()) {
                wrongRuns++;
            }
        }
        CHECK.end();
    }

    private boolean run() {
        boolean isRich = random.nextInt(3) == 0;
        boolean isGood = feed(isRich ? "logic " + (4 + random.nextInt(5)) + ";" : header(), "load");
        if (isRich) {
            isGood &= fill(random.nextInt(75));
        }
        for (int k = 0; k < CALLS && isGood && hasRoom(); k++) {
            int kind = random.nextInt(10);
            if (kind == 0) {
                boolean isText = random.nextInt(6) == 0;
                letters = reference.variableCount();
                numbers = isText ? 5 : reference.clauseCount() + 1;
                String text = isText ? header() : "";
                text += commands(random.nextInt(8));
                isGood = feed(random.nextInt(4) == 0 ? damaged(text) : text,
                    random.nextInt(12) == 0 != isText ? "load" : "play");
            } else if (kind < 4) {
                isGood = call(named(CHANGES[random.nextInt(CHANGES.length)])) && askAll();
            } else {
                isGood = call(methods.get(random.nextInt(methods.size())));
            }
        }
        return isGood;
    }

    private boolean hasRoom() {
        return calls + CALLS_OF_A_TEXT <= MOST_CALLS_OF_AN_OBJECT
            && heard.size() + CALLS_OF_A_TEXT <= MOST_HEARD;
    }

    /** Adds clauses of a few literals, so that there are many and much to resolve. */
    private boolean fill(int count) {
        int all = (1 << reference.variableCount()) - 1;
        boolean isGood = true;
        for (int k = 0; k < count; k++) {
            int sign = random.nextInt(all + 1);
            int mask = random.nextInt(all + 1) & random.nextInt(all + 1);
            if (Integer.bitCount(mask) > 1) {
                isGood &= invoke(named("addClause"), mask & sign, mask & ~sign);
            }
        }
        return isGood && askAll();
    }

    private Method named(String name) {
        for (Method method : methods) {
            if (method.getName().equals(name)) {
                return method;
            }
        }
        throw new IllegalStateException(name);
    }

    /** Asks each method without a parameter that changes nothing, and for the parents of all. */
    private boolean askAll() {
        boolean isGood = true;
        copy = null;
        for (Method method : methods) {
            if (method.getParameterCount() == 0 && !CHANGES_SOMETHING.contains(method.getName())) {
                isGood &= ask(method);
            }
        }
        for (int k = 0; k < reference.clauseCount(); k++) {
            isGood &= ask(named("positiveOf"), k) && ask(named("negativeOf"), k)
                && ask(named("positiveParent"), k) && ask(named("negativeParent"), k);
        }
        return isGood;
    }

    private boolean ask(Method method, Object... arguments) {
        if (copy == null || callsOfCopy == MOST_CALLS_OF_AN_OBJECT) {
            copy = new ResolutionProver();
            for (int k = 0; k < heard.size(); k++) {
                Answer.of(copy, heard.get(k), heardArguments.get(k));
            }
            callsOfCopy = heard.size();
        }
        callsOfCopy++;
        return isSame(method, arguments, Answer.of(copy, method, arguments));
    }

    private boolean call(Method method) {
        if (random.nextInt(2) == 0 && method.getName().toLowerCase().contains("resol")
            && reference.resolvablePairs() > 0 && method.getParameterCount() == 2) {
            return callWithPair(method);
        }
        Object[] arguments = new Object[method.getParameterCount()];
        for (int k = 0; k < arguments.length; k++) {
            arguments[k] = method.getParameterTypes()[k] == boolean.class
                ? (Object) random.nextBoolean() : (Object) argument(method.getName(), k, arguments);
        }
        return invoke(method, arguments);
    }

    private boolean callWithPair(Method method) {
        int first = 0;
        int second = 0;
        while (!reference.areResolvable(first, second)) {
            first = random.nextInt(reference.clauseCount());
            second = random.nextInt(reference.clauseCount());
        }
        return invoke(method, first, second);
    }

    private int argument(String name, int place, Object[] before) {
        int[] edges = {-1, 12, 13, 60, 499, 500, 501, 4096, Integer.MIN_VALUE, Integer.MAX_VALUE};
        if (random.nextInt(15) == 0) {
            return edges[random.nextInt(edges.length)];
        }
        int all = (1 << reference.variableCount()) - 1;
        switch (name) {
            case "append":
                return random.nextInt();
            case "find":
            case "isImplied":
            case "addClause":
                int mask = random.nextInt(all + 1) & random.nextInt(all + 1);
                mask |= place == 1 && random.nextInt(4) != 0 ? 1 << random.nextInt(4) & all : 0;
                return place == 1 && random.nextInt(10) != 0 ? mask & ~(Integer) before[0] : mask;
            case "isTrue":
                return random.nextInt(place == 0 ? reference.clauseCount() + 1 : all + 2);
            case "falseClauses":
            case "bestFlip":
                return random.nextInt(all + 2);
            case "occurrences":
            case "negateVariable":
                return random.nextInt(reference.variableCount() + 1);
            case "saturate":
                return random.nextInt(4) == 0 ? random.nextInt(101) : random.nextInt(4);
            case "save":
            case "restore":
                return random.nextInt(2);
            case "outputByte":
            case "truncate":
                return random.nextInt(9) - 1;
            case "modelAt":
                return random.nextInt(reference.modelCount() + 2) - 1;
            case "clausesOfSize":
                return random.nextInt(6) - 1;
            default:
                return random.nextInt(Math.max(1, reference.clauseCount()));
        }
    }

    private boolean invoke(Method method, Object... arguments) {
        if (CHANGES_SOMETHING.contains(method.getName())) {
            heard.add(method);
            heardArguments.add(arguments);
        }
        calls++;
        return isSame(method, arguments, Answer.of(prover, method, arguments));
    }

    private boolean isSame(Method method, Object[] arguments, String got) {
        String due;
        try {
            Method same = Reference.class.getMethod(method.getName(), method.getParameterTypes());
            due = Answer.of(reference, same, arguments);
        } catch (NoSuchMethodException e) {
            due = e.toString();
        }
        String call = method.getName() + Arrays.toString(arguments);
        told.append(call).append(" = ").append(got).append('\n');
        CHECK.same(call, got, due);
        if (!got.equals(due)) {
            System.out.println("the run was:\n" + told);
        }
        return got.equals(due);
    }

    // ---- texts

    private boolean feed(String whole, String method) {
        String text = whole.length() > 500 ? whole.substring(0, 500) : whole;
        boolean isGood = invoke(named("truncate"), 0);
        for (int start = 0; start < text.length(); start += 20) {
            isGood &= invoke(named("append"), Feed.four(text, start), Feed.four(text, start + 4),
                Feed.four(text, start + 8), Feed.four(text, start + 12),
                Feed.four(text, start + 16));
        }
        isGood &= invoke(named("truncate"), text.length());
        told.append("the text is \"").append(text).append("\"\n");
        return isGood && invoke(named(method)) && invoke(named("parseError"))
            && invoke(named("parseErrorPosition")) && askAll();
    }

    private String header() {
        int variables = random.nextInt(12) == 0 ? random.nextInt(14) : 1 + random.nextInt(6);
        letters = Math.max(1, Math.min(variables, 12));
        return "logic " + variables + ";";
    }

    private String commands(int count) {
        StringBuilder text = new StringBuilder();
        for (int k = 0; k < count; k++) {
            text.append(command()).append(random.nextInt(60) == 0 ? " " : ";");
        }
        return text.toString();
    }

    private String command() {
        switch (random.nextInt(14)) {
            case 0:
            case 1:
                return "resolve " + number(numbers) + " " + number(numbers);
            case 2:
                return "saturate " + number(4);
            case 3:
                return "drop " + number(numbers);
            case 4:
                return "negate " + letter();
            case 5:
                return "invert";
            case 6:
                return "reduce";
            case 7:
            case 8:
                return "expect " + condition();
            default:
                return "clause" + literals();
        }
    }

    private String condition() {
        switch (random.nextInt(9)) {
            case 0:
                return "clauses " + number(numbers + 1);
            case 1:
                return "models " + modelCount();
            case 2:
                return "refuted";
            case 3:
                return "open";
            case 4:
                return "implied" + literals();
            case 5:
                return "fixed" + literal();
            case 6:
                return "subsumed " + number(4);
            case 7:
                return "size " + number(numbers) + " " + number(4);
            default:
                return "depth " + number(numbers) + " " + number(3);
        }
    }

    private String modelCount() {
        return random.nextBoolean() ? number(6) : String.valueOf(reference.modelCount());
    }

    private String literals() {
        StringBuilder text = new StringBuilder();
        for (int k = random.nextInt(20) == 0 ? 0 : 1 + random.nextInt(4); k > 0; k--) {
            text.append(literal());
        }
        return text.toString();
    }

    private String literal() {
        return (random.nextBoolean() ? " -" : " ") + letter();
    }

    private char letter() {
        return (char) ('a' + random.nextInt(random.nextInt(40) == 0 ? 26 : letters));
    }

    private String number(int below) {
        return random.nextInt(60) == 0 ? "00012".substring(random.nextInt(4))
            : String.valueOf(random.nextInt(below));
    }

    /** Takes a byte away, doubles one or puts another one in. */
    private String damaged(String text) {
        if (text.isEmpty()) {
            return ";";
        }
        int at = random.nextInt(text.length());
        String others = "abz-;09 \n\t$A\u0000\u00ff";
        switch (random.nextInt(4)) {
            case 0:
                return text.substring(0, at) + text.substring(at + 1);
            case 1:
                return text.substring(0, at) + others.charAt(random.nextInt(others.length()))
                    + text.substring(at);
            case 2:
                return text.substring(0, at) + others.charAt(random.nextInt(others.length()))
                    + text.substring(at + 1);
            default:
                return text.substring(0, at);
        }
    }
}
