import java.lang.reflect.InvocationTargetException;
import java.lang.reflect.Method;
import java.util.Arrays;
import java.util.Comparator;
import java.util.function.Consumer;
import java.util.function.Supplier;
import java.util.regex.Matcher;
import java.util.regex.Pattern;

/** Compares answers with those that are due, and counts the wrong ones. */
final class Check {
    private static final Pattern NAMED_AFTER_A_PROMISE = Pattern.compile("promise(\\d+)[A-Z]\\w*");

    private final String name;
    /** The test of a promise that runs, with a space behind it; empty while none runs. */
    private String running = "";
    private int made = 0;
    private int wrong = 0;

    Check(String name) {
        this.name = name;
    }

    void equal(String what, long got, long due) {
        made++;
        if (got != due) {
            tell(what + " answered " + got + ", due is " + due);
        }
    }

    void yes(String what, boolean got) {
        made++;
        if (!got) {
            tell(what + " answered false, due is true");
        }
    }

    void no(String what, boolean got) {
        made++;
        if (got) {
            tell(what + " answered true, due is false");
        }
    }

    void same(String what, String got, String due) {
        made++;
        if (!got.equals(due)) {
            tell(what + " answered \"" + got + "\", due is \"" + due + "\"");
        }
    }

    void share(String what, double got, double due) {
        made++;
        if (got != due) {
            tell(what + " answered " + got + ", due is " + due);
        }
    }

    void raises(String what, Class<? extends RuntimeException> due, Runnable call) {
        made++;
        Class<?> got = null;
        try {
            call.run();
        } catch (RuntimeException e) {
            got = e.getClass();
        }
        if (got != due) {
            tell(what + " threw " + (got == null ? "nothing" : got.getName())
                + ", due is " + due.getName());
        }
    }

    void noIndex(String what, Runnable call) {
        raises(what, IndexOutOfBoundsException.class, call);
    }

    void noArgument(String what, Runnable call) {
        raises(what, IllegalArgumentException.class, call);
    }

    void noState(String what, Runnable call) {
        raises(what, IllegalStateException.class, call);
    }

    /**
     * The call has to throw, and afterwards everything has to be as in an object, made in the same
     * way, that has not heard of the call.
     */
    void refused(String what, Class<? extends RuntimeException> due,
            Supplier<ResolutionProver> maker, Consumer<ResolutionProver> call) {
        raises(what, due, () -> call.accept(maker.get()));
        leavesAll(what, maker, x -> quietly(() -> call.accept(x)));
    }

    /** Whether it threw what is due has been told by then. */
    private static void quietly(Runnable call) {
        try {
            call.run();
        } catch (RuntimeException e) {
            return;
        }
    }

    /** Behind the calls everything has to be as in an object that has not heard of them. */
    void leavesAll(String what, Supplier<ResolutionProver> maker,
            Consumer<ResolutionProver> calls) {
        alike("what is left of " + what, behind(maker, calls), maker);
    }

    /** Two objects have to tell the same; each maker always makes it in the same way. */
    void alike(String what, Supplier<ResolutionProver> got, Supplier<ResolutionProver> due) {
        same(what, Everything.of(got), Everything.of(due));
    }

    /** Two objects have to tell the same but for the parse error. */
    void alikeButParseError(
            String what, Supplier<ResolutionProver> got, Supplier<ResolutionProver> due) {
        same(what, Everything.butParseError(got), Everything.butParseError(due));
    }

    /** The maker of objects that have heard of these calls. */
    static Supplier<ResolutionProver> behind(
            Supplier<ResolutionProver> maker, Consumer<ResolutionProver> calls) {
        return () -> {
            ResolutionProver x = maker.get();
            calls.accept(x);
            return x;
        };
    }

    /** Runs the methods of a test that are named after a promise, in the order of the promises. */
    void runPromises(Class<?> test) {
        Method[] methods = test.getDeclaredMethods();
        Arrays.sort(methods,
            Comparator.comparingInt(Check::promiseOf).thenComparing(Method::getName));
        for (Method method : methods) {
            if (promiseOf(method) > 0) {
                running = method.getName() + " ";
                run(method);
            }
        }
        running = "";
    }

    /** Returns the number of the promise that a method is named after; 0 if there is none. */
    static int promiseOf(Method method) {
        Matcher matcher = NAMED_AFTER_A_PROMISE.matcher(method.getName());
        return matcher.matches() ? Integer.parseInt(matcher.group(1)) : 0;
    }

    private void run(Method method) {
        int before = made;
        try {
            method.invoke(null);
        } catch (InvocationTargetException e) {
            tell("threw " + e.getCause());
        } catch (IllegalAccessException e) {
            tell("cannot be called: " + e);
        }
        if (made == before) {
            tell("asked for nothing");
        }
    }

    void tell(String text) {
        wrong++;
        System.out.println(name + ": " + running + text);
    }

    /** Ends the test: with exit code 1 if an answer was wrong or none was asked for. */
    void end() {
        System.out.println(name + ": " + made + " answers, " + wrong + " of them wrong");
        if (wrong != 0 || made == 0) {
            System.exit(1);
        }
    }
}
