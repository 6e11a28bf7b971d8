/** Compares answers with those that are due, and counts the wrong ones. */
final class Check {
    private final String name;
    private int made = 0;
    private int wrong = 0;

    Check(String name) {
        this.name = name;
    }

    void equal(String what, long got, long due) {
        made++;
        if (got != due) {
            tell(what + " answered " + got + ", due is " + due);
        }
    }

    void yes(String what, boolean got) {
        made++;
        if (!got) {
            tell(what + " answered false, due is true");
        }
    }

    void no(String what, boolean got) {
        made++;
        if (got) {
            tell(what + " answered true, due is false");
        }
    }

    void same(String what, String got, String due) {
        made++;
        if (!got.equals(due)) {
            tell(what + " answered \"" + got + "\", due is \"" + due + "\"");
        }
    }

    void share(String what, double got, double due) {
        made++;
        if (got != due) {
            tell(what + " answered " + got + ", due is " + due);
        }
    }

    void raises(String what, Class<? extends RuntimeException> due, Runnable call) {
        made++;
        Class<?> got = null;
        try {
            call.run();
        } catch (RuntimeException e) {
            got = e.getClass();
        }
        if (got != due) {
            tell(what + " threw " + (got == null ? "nothing" : got.getName())
                + ", due is " + due.getName());
        }
    }

    void noIndex(String what, Runnable call) {
        raises(what, IndexOutOfBoundsException.class, call);
    }

    void noArgument(String what, Runnable call) {
        raises(what, IllegalArgumentException.class, call);
    }

    void noState(String what, Runnable call) {
        raises(what, IllegalStateException.class, call);
    }

    void tell(String text) {
        wrong++;
        System.out.println(name + ": " + text);
    }

    /** Ends the test: with exit code 1 if an answer was wrong or none was asked for. */
    void end() {
        System.out.println(name + ": " + made + " answers, " + wrong + " of them wrong");
        if (wrong != 0 || made == 0) {
            System.exit(1);
        }
    }
}
