/** Asks a method of the face at the edges of its arguments, on both sides of them. */
final class Edges {
    interface Call {
        void of(ResolutionProver x, int argument);
    }

    interface CallOfTwo {
        void of(ResolutionProver x, int first, int second);
    }

    private final Check check;

    Edges(Check check) {
        this.check = check;
    }

    private void takes(String what, Runnable call) {
        try {
            call.run();
            check.yes(what, true);
        } catch (RuntimeException e) {
            check.tell(what + " threw " + e);
        }
    }

    /** The number of a clause: from 0 to the number of clauses less 1, whatever this one is. */
    void clauseNumbers(String what, Call call) {
        for (int count : new int[] {0, 1, 2, 31, 32, 33, 59, 60}) {
            String where = what + " with " + count + " clauses of ";
            if (count > 0) {
                takes(where + 0, () -> call.of(Provers.withClauses(count), 0));
                takes(where + (count - 1), () -> call.of(Provers.withClauses(count), count - 1));
            }
            ResolutionProver x = Provers.withClauses(count);
            for (int clause : Provers.outside(0, count - 1)) {
                if (clause < 0 || clause >= count) {
                    check.noIndex(where + clause, () -> call.of(x, clause));
                }
            }
        }
        for (int clause : new int[] {Integer.MIN_VALUE, -1, 6, 60, Integer.MAX_VALUE}) {
            check.refused(what + " of clause " + clause, IndexOutOfBoundsException.class,
                Provers::worked, x -> call.of(x, clause));
        }
        check.refused(what + " of clause 60", IndexOutOfBoundsException.class,
            Provers::workedAndFull, x -> call.of(x, 60));
    }

    /** The number of a variable: from 0 to the number of variables less 1. */
    void variableNumbers(String what, Call call) {
        for (int variables : new int[] {1, 2, 11, 12}) {
            String where = what + " with " + variables + " variables of ";
            ResolutionProver x = Provers.withVariables(variables);
            takes(where + 0, () -> call.of(x, 0));
            takes(where + (variables - 1), () -> call.of(x, variables - 1));
            for (int variable : Provers.outside(0, variables - 1)) {
                check.noIndex(where + variable, () -> call.of(x, variable));
            }
        }
        for (int variable : Provers.outside(0, 3)) {
            check.refused(what + " of variable " + variable, IndexOutOfBoundsException.class,
                Provers::worked, x -> call.of(x, variable));
        }
    }

    /** The number of a slot: 0 or 1. */
    void slotNumbers(String what, Call call) {
        for (int slot : Provers.outside(0, 1)) {
            check.refused(what + " of slot " + slot, IndexOutOfBoundsException.class,
                Provers::worked, x -> call.of(x, slot));
        }
    }

    /** A variable mask: not negative, and without a bit of a variable that does not exist. */
    void masks(String what, Call call) {
        for (int variables : new int[] {1, 2, 4, 11, 12}) {
            String where = what + " with " + variables + " variables of mask ";
            int all = (1 << variables) - 1;
            for (int mask : new int[] {0, 1, all & ~1, 1 << variables - 1, all}) {
                takes(where + mask, () -> call.of(Provers.withVariables(variables), mask));
            }
            ResolutionProver x = Provers.withVariables(variables);
            for (int mask : Provers.noMasks(variables)) {
                check.noArgument(where + mask, () -> call.of(x, mask));
            }
        }
        for (int mask : Provers.noMasks(4)) {
            check.refused(what + " of mask " + mask, IllegalArgumentException.class,
                Provers::worked, x -> call.of(x, mask));
        }
    }

    /** The two masks of a clause: each one a variable mask, and without a common bit. */
    void literals(String what, CallOfTwo call) {
        masks(what + ", positive", (x, mask) -> call.of(x, mask, 0));
        masks(what + ", negative", (x, mask) -> call.of(x, 0, mask));
        for (int variables : new int[] {1, 2, 4, 11, 12}) {
            String where = what + " with " + variables + " variables of ";
            int all = (1 << variables) - 1;
            int last = 1 << variables - 1;
            int[][] apart = {{0, 0}, {all, 0}, {0, all}, {all & ~last, last}, {last, all & ~last}};
            for (int[] masks : apart) {
                takes(where + masks[0] + " and " + masks[1],
                    () -> call.of(Provers.withVariables(variables), masks[0], masks[1]));
            }
            ResolutionProver x = Provers.withVariables(variables);
            int[][] common = {{1, 1}, {last, last}, {all, all}, {all, 1}, {last, all}, {-1, -1},
                {all + 1, all + 1}, {-1, all + 1}, {Integer.MIN_VALUE, Integer.MIN_VALUE}};
            for (int[] masks : common) {
                check.noArgument(where + masks[0] + " and " + masks[1],
                    () -> call.of(x, masks[0], masks[1]));
            }
        }
        check.refused(what + " of masks with a common bit", IllegalArgumentException.class,
            Provers::worked, x -> call.of(x, 6, 12));
    }
}
