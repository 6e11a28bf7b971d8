/**
 * A resolution prover for propositional clauses: it resolves clauses by hand or in a fixed order
 * until the empty clause is found, keeps the derivations, and checks them against the models of the
 * clauses, with unit propagation, subsumption, pure literals and implied literals.
 */
public final class ResolutionProver {

    /** The value that is returned where there is no result. */
    public static final int NONE = -1;

    private static final int MOST_VARIABLES = 12;
    private static final int MOST_CLAUSES = 60;
    private static final int MOST_CHANGES = 8;
    private static final int MOST_STEPS = 99;
    private static final int SLOTS = 2;
    private static final int VARIABLES_OF_A_NEW_OBJECT = 4;

    private static final int MOST_BYTES = 500;
    private static final int BYTES_AN_APPEND = 20;
    private static final int MOST_DIGITS = 4;
    private static final int MOST_VALUE = 9999;

    /** Twelve literals with a minus sign and a letter each, and a space between two. */
    private static final int MOST_OUTPUT_BYTES = 35;

    private static final int KIND_END = 0;
    private static final int KIND_WORD = 1;
    private static final int KIND_NUMBER = 2;
    private static final int KIND_SEMICOLON = 3;
    private static final int KIND_MINUS = 4;
    private static final int KIND_INVALID = 5;

    private static final int ERROR_TOKEN = 1;
    private static final int ERROR_RANGE = 2;
    private static final int ERROR_OPPOSITE = 3;
    private static final int ERROR_CLAUSE = 4;
    private static final int ERROR_EXPECT = 5;

    private final Clauses clauses;
    private final Clauses trial;
    private final Script script;
    private final History history;
    private final Clauses[] slots;
    private final boolean[] slotIsFilled;
    private final Saturation saturation;
    private final Propagation propagation;
    private final Output output;

    public ResolutionProver() {
        clauses = new Clauses();
        trial = new Clauses();
        script = new Script();
        history = new History();
        slots = new Clauses[SLOTS];
        for (int slot = 0; slot < SLOTS; slot++) {
            slots[slot] = new Clauses();
        }
        slotIsFilled = new boolean[SLOTS];
        saturation = new Saturation();
        propagation = new Propagation();
        output = new Output();
    }

    // ---- input

    public int append(int a, int b, int c, int d, int e) {
        Tokens input = script.tokens;
        if (input.length + BYTES_AN_APPEND > MOST_BYTES) {
            return NONE;
        }
        input.addFour(a);
        input.addFour(b);
        input.addFour(c);
        input.addFour(d);
        input.addFour(e);
        return input.length;
    }

    public boolean truncate(int length) {
        if (length < 0 || length > script.tokens.length) {
            return false;
        }
        script.tokens.length = length;
        return true;
    }

    public int load() throws IllegalArgumentException {
        script.begin();
        script.readHeader();
        script.readCommands();
        script.end();
        if (script.errorCode != 0) {
            throw new IllegalArgumentException("the text has a parse error");
        }
        clauses.copyFrom(script.draft);
        history.clear();
        for (int slot = 0; slot < SLOTS; slot++) {
            slotIsFilled[slot] = false;
        }
        return clauses.count;
    }

    public int play() throws IllegalArgumentException {
        script.begin();
        script.draft.copyFrom(clauses);
        script.readCommands();
        script.end();
        if (script.errorCode != 0) {
            throw new IllegalArgumentException("the script has a parse error");
        }
        history.push(clauses);
        clauses.copyFrom(script.draft);
        return script.commands;
    }

    public int parseError() {
        return script.errorCode;
    }

    public int parseErrorPosition() {
        return script.errorPosition;
    }

    // ---- clauses

    public int variableCount() {
        return clauses.variables;
    }

    public int clauseCount() {
        return clauses.count;
    }

    public int positiveOf(int clause) throws IndexOutOfBoundsException {
        checkClause(clause);
        return clauses.positive[clause];
    }

    public int negativeOf(int clause) throws IndexOutOfBoundsException {
        checkClause(clause);
        return clauses.negative[clause];
    }

    public int sizeOf(int clause) throws IndexOutOfBoundsException {
        checkClause(clause);
        return clauses.literalsIn(clause);
    }

    public int find(int positive, int negative) throws IllegalArgumentException {
        checkLiterals(positive, negative);
        return clauses.indexOf(positive, negative);
    }

    public boolean isGiven(int clause) throws IndexOutOfBoundsException {
        checkClause(clause);
        return clauses.pivot[clause] == NONE;
    }

    public int positiveParent(int clause) throws IndexOutOfBoundsException {
        checkClause(clause);
        return clauses.parentWith[clause];
    }

    public int negativeParent(int clause) throws IndexOutOfBoundsException {
        checkClause(clause);
        return clauses.parentWithout[clause];
    }

    public int variableOf(int clause) throws IndexOutOfBoundsException {
        checkClause(clause);
        return clauses.pivot[clause];
    }

    public int depthOf(int clause) throws IndexOutOfBoundsException {
        checkClause(clause);
        return clauses.depth[clause];
    }

    public int deepestClause() {
        return clauses.firstOfGreatestDepth();
    }

    public int derivationSize(int clause) throws IndexOutOfBoundsException {
        checkClause(clause);
        return Long.bitCount(clauses.derivationMask(clause));
    }

    public long premises(int clause) throws IndexOutOfBoundsException {
        checkClause(clause);
        return clauses.derivationMask(clause) & clauses.givenMask();
    }

    public int emptyClause() {
        return clauses.indexOf(0, 0);
    }

    public int clausesOfSize(int size) {
        return clauses.countWithLiterals(size);
    }

    public int hornClauses() {
        return clauses.countHorn();
    }

    public int occurrences(int variable, boolean isPositive) throws IndexOutOfBoundsException {
        checkVariable(variable);
        int bit = 1 << variable;
        return isPositive ? clauses.countTouching(bit, 0) : clauses.countTouching(0, bit);
    }

    public int mostFrequentVariable() {
        return clauses.firstOfMostClauses();
    }

    public int purePositive() {
        return clauses.allPositive() & ~clauses.allNegative();
    }

    public int pureNegative() {
        return clauses.allNegative() & ~clauses.allPositive();
    }

    // ---- resolution and subsumption

    public int clashes(int clause, int other) throws IndexOutOfBoundsException {
        checkClause(clause);
        checkClause(other);
        return Integer.bitCount(clauses.clashMask(clause, other));
    }

    public boolean areResolvable(int clause, int other) throws IndexOutOfBoundsException {
        checkClause(clause);
        checkClause(other);
        return clauses.clashOnce(clause, other);
    }

    public int resolventPositive(int clause, int other) throws IndexOutOfBoundsException {
        checkClause(clause);
        checkClause(other);
        return clauses.clashOnce(clause, other) ? clauses.mergedPositive(clause, other) : NONE;
    }

    public int resolventNegative(int clause, int other) throws IndexOutOfBoundsException {
        checkClause(clause);
        checkClause(other);
        return clauses.clashOnce(clause, other) ? clauses.mergedNegative(clause, other) : NONE;
    }

    public int resolvablePairs() {
        return clauses.countPairsThatClashOnce();
    }

    public boolean subsumes(int clause, int other) throws IndexOutOfBoundsException {
        checkClause(clause);
        checkClause(other);
        return clauses.isWithin(clause, clauses.positive[other], clauses.negative[other]);
    }

    public int subsumerOf(int clause) throws IndexOutOfBoundsException {
        checkClause(clause);
        return clauses.firstSubsumer(clause);
    }

    public int subsumedClauses() {
        return clauses.countSubsumed();
    }

    public int nextFirst() {
        saturation.begin();
        return saturation.findStep(clauses) ? saturation.first : NONE;
    }

    public int nextSecond() {
        saturation.begin();
        return saturation.findStep(clauses) ? saturation.second : NONE;
    }

    public int stepsToEmpty() {
        trial.copyFrom(clauses);
        int steps = saturation.makeSteps(trial, MOST_CLAUSES);
        return trial.indexOf(0, 0) == NONE ? NONE : steps;
    }

    // ---- models

    public int modelCount() {
        return Models.count(clauses);
    }

    public int firstModel() {
        return Models.at(clauses, 0);
    }

    public int modelAt(int index) {
        return Models.at(clauses, index);
    }

    public boolean isTrue(int clause, int assignment)
            throws IndexOutOfBoundsException, IllegalArgumentException {
        checkClause(clause);
        checkMask(assignment);
        return clauses.isTrueUnder(clause, assignment);
    }

    public int falseClauses(int assignment) throws IllegalArgumentException {
        checkMask(assignment);
        return Models.countFalse(clauses, assignment);
    }

    public int bestFlip(int assignment) throws IllegalArgumentException {
        checkMask(assignment);
        return Models.firstBestFlip(clauses, assignment);
    }

    public int alwaysTrue() {
        return Models.trueInAll(clauses);
    }

    public int alwaysFalse() {
        return Models.falseInAll(clauses);
    }

    public boolean isImplied(int positive, int negative) throws IllegalArgumentException {
        checkLiterals(positive, negative);
        return Models.imply(clauses, positive, negative, NONE);
    }

    public boolean isRedundant(int clause) throws IndexOutOfBoundsException {
        checkClause(clause);
        return Models.imply(clauses, clauses.positive[clause], clauses.negative[clause], clause);
    }

    public double modelShare() {
        return (double) Models.count(clauses) / (double) (1 << clauses.variables);
    }

    public int fixedTrue() {
        propagation.run(clauses);
        return propagation.trueMask;
    }

    public int fixedFalse() {
        propagation.run(clauses);
        return propagation.falseMask;
    }

    public boolean hasConflict() {
        propagation.run(clauses);
        return propagation.isContradictory(clauses);
    }

    // ---- changes

    public int addClause(int positive, int negative)
            throws IllegalArgumentException, IllegalStateException {
        checkLiterals(positive, negative);
        if (clauses.isFull()) {
            throw new IllegalStateException("there are 60 clauses");
        }
        if (clauses.indexOf(positive, negative) != NONE) {
            throw new IllegalStateException("the clause exists already");
        }
        history.push(clauses);
        return clauses.addGiven(positive, negative);
    }

    public int resolve(int clause, int other)
            throws IndexOutOfBoundsException, IllegalArgumentException, IllegalStateException {
        checkClause(clause);
        checkClause(other);
        if (!clauses.clashOnce(clause, other)) {
            throw new IllegalArgumentException("the clauses are not resolvable");
        }
        if (!clauses.hasRoomForResolvent(clause, other)) {
            throw new IllegalStateException("the resolvent exists, or there are 60 clauses");
        }
        history.push(clauses);
        return clauses.addResolvent(clause, other);
    }

    public int saturate(int steps) throws IllegalArgumentException, IllegalStateException {
        if (steps < 1 || steps > MOST_STEPS) {
            throw new IllegalArgumentException("steps are 1 to 99");
        }
        saturation.begin();
        if (!saturation.findStep(clauses)) {
            throw new IllegalStateException("there is no next step");
        }
        history.push(clauses);
        return saturation.makeSteps(clauses, steps);
    }

    public int dropClause(int clause) throws IndexOutOfBoundsException, IllegalStateException {
        checkClause(clause);
        if (clauses.isParent(clause)) {
            throw new IllegalStateException("the clause is a parent");
        }
        history.push(clauses);
        clauses.remove(clause);
        return Models.count(clauses);
    }

    public int negateVariable(int variable) throws IndexOutOfBoundsException {
        checkVariable(variable);
        history.push(clauses);
        clauses.negate(variable);
        int bit = 1 << variable;
        return clauses.countTouching(bit, bit);
    }

    public int reduce() {
        history.push(clauses);
        return clauses.removeSubsumed();
    }

    public int undo() throws IllegalStateException {
        if (history.count == 0) {
            throw new IllegalStateException("there is no change to undo");
        }
        history.pop(clauses);
        return history.count;
    }

    public int undoDepth() {
        return history.count;
    }

    public boolean save(int slot) throws IndexOutOfBoundsException {
        checkSlot(slot);
        boolean wasEmpty = !slotIsFilled[slot];
        slots[slot].copyFrom(clauses);
        slotIsFilled[slot] = true;
        return wasEmpty;
    }

    public int restore(int slot) throws IndexOutOfBoundsException, IllegalStateException {
        checkSlot(slot);
        if (!slotIsFilled[slot]) {
            throw new IllegalStateException("the slot is empty");
        }
        clauses.copyFrom(slots[slot]);
        history.clear();
        return clauses.count;
    }

    // ---- output text

    public int writeClause(int clause) throws IndexOutOfBoundsException {
        checkClause(clause);
        output.write(clauses.positive[clause], clauses.negative[clause]);
        return output.length;
    }

    public int outputByte(int index) {
        if (index < 0 || index >= output.length) {
            return NONE;
        }
        return output.bytes[index];
    }

    // ---- what the methods above ask of their arguments

    private void checkClause(int clause) {
        if (!clauses.hasClause(clause)) {
            throw new IndexOutOfBoundsException("there is no such clause");
        }
    }

    private void checkVariable(int variable) {
        if (variable < 0 || variable >= clauses.variables) {
            throw new IndexOutOfBoundsException("there is no such variable");
        }
    }

    private void checkSlot(int slot) {
        if (slot < 0 || slot >= SLOTS) {
            throw new IndexOutOfBoundsException("there is no such slot");
        }
    }

    private void checkMask(int mask) {
        if (!clauses.isMask(mask)) {
            throw new IllegalArgumentException("this is no variable mask");
        }
    }

    private void checkLiterals(int positive, int negative) {
        checkMask(positive);
        checkMask(negative);
        if ((positive & negative) != 0) {
            throw new IllegalArgumentException("a variable stands beside its negation");
        }
    }

    /** A state: the number of variables, and the clauses with their parents. */
    private static final class Clauses {
        final int[] positive = new int[MOST_CLAUSES];
        final int[] negative = new int[MOST_CLAUSES];
        /** The parent that contains the pivot positively; NONE for a given clause. */
        final int[] parentWith = new int[MOST_CLAUSES];
        /** The parent that contains the pivot negatively; NONE for a given clause. */
        final int[] parentWithout = new int[MOST_CLAUSES];
        /** The variable in which the parents clash; NONE for a given clause. */
        final int[] pivot = new int[MOST_CLAUSES];
        /** Kept with the clause, since no change alters the depth of a clause that stays. */
        final int[] depth = new int[MOST_CLAUSES];
        int variables = VARIABLES_OF_A_NEW_OBJECT;
        int count = 0;

        void begin(int newVariables) {
            variables = newVariables;
            count = 0;
        }

        void copyFrom(Clauses other) {
            variables = other.variables;
            count = other.count;
            System.arraycopy(other.positive, 0, positive, 0, count);
            System.arraycopy(other.negative, 0, negative, 0, count);
            System.arraycopy(other.parentWith, 0, parentWith, 0, count);
            System.arraycopy(other.parentWithout, 0, parentWithout, 0, count);
            System.arraycopy(other.pivot, 0, pivot, 0, count);
            System.arraycopy(other.depth, 0, depth, 0, count);
        }

        boolean hasClause(int clause) {
            return clause >= 0 && clause < count;
        }

        boolean isFull() {
            return count >= MOST_CLAUSES;
        }

        int allVariables() {
            return (1 << variables) - 1;
        }

        boolean isMask(int mask) {
            return (mask & ~allVariables()) == 0;
        }

        int indexOf(int wantedPositive, int wantedNegative) {
            for (int k = 0; k < count; k++) {
                if (positive[k] == wantedPositive && negative[k] == wantedNegative) {
                    return k;
                }
            }
            return NONE;
        }

        int literalsIn(int clause) {
            return Integer.bitCount(positive[clause]) + Integer.bitCount(negative[clause]);
        }

        // ---- counting

        int countWithLiterals(int size) {
            int found = 0;
            for (int k = 0; k < count; k++) {
                if (literalsIn(k) == size) {
                    found++;
                }
            }
            return found;
        }

        int countHorn() {
            int found = 0;
            for (int k = 0; k < count; k++) {
                if (Integer.bitCount(positive[k]) <= 1) {
                    found++;
                }
            }
            return found;
        }

        /** Counts the clauses with one of these positive or one of these negative literals. */
        int countTouching(int somePositive, int someNegative) {
            int found = 0;
            for (int k = 0; k < count; k++) {
                if ((positive[k] & somePositive) != 0 || (negative[k] & someNegative) != 0) {
                    found++;
                }
            }
            return found;
        }

        int firstOfMostClauses() {
            int best = 0;
            int bestFound = 0;
            for (int variable = 0; variable < variables; variable++) {
                int found = countTouching(1 << variable, 1 << variable);
                if (found > bestFound) {
                    best = variable;
                    bestFound = found;
                }
            }
            return best;
        }

        int allPositive() {
            int mask = 0;
            for (int k = 0; k < count; k++) {
                mask |= positive[k];
            }
            return mask;
        }

        int allNegative() {
            int mask = 0;
            for (int k = 0; k < count; k++) {
                mask |= negative[k];
            }
            return mask;
        }

        // ---- derivations

        int firstOfGreatestDepth() {
            int best = NONE;
            int bestDepth = NONE;
            for (int k = 0; k < count; k++) {
                if (depth[k] > bestDepth) {
                    best = k;
                    bestDepth = depth[k];
                }
            }
            return best;
        }

        long givenMask() {
            long mask = 0;
            for (int k = 0; k < count; k++) {
                if (pivot[k] == NONE) {
                    mask |= 1L << k;
                }
            }
            return mask;
        }

        /** Goes downwards once, since parents have lower numbers than their resolvents. */
        long derivationMask(int clause) {
            long mask = 1L << clause;
            for (int k = clause; k >= 0; k--) {
                if ((mask >> k & 1) != 0 && pivot[k] != NONE) {
                    mask |= 1L << parentWith[k] | 1L << parentWithout[k];
                }
            }
            return mask;
        }

        boolean isParent(int clause) {
            for (int k = 0; k < count; k++) {
                if (parentWith[k] == clause || parentWithout[k] == clause) {
                    return true;
                }
            }
            return false;
        }

        // ---- resolution

        int clashMask(int clause, int other) {
            return positive[clause] & negative[other] | negative[clause] & positive[other];
        }

        boolean clashOnce(int clause, int other) {
            return Integer.bitCount(clashMask(clause, other)) == 1;
        }

        int mergedPositive(int clause, int other) {
            return (positive[clause] | positive[other]) & ~clashMask(clause, other);
        }

        int mergedNegative(int clause, int other) {
            return (negative[clause] | negative[other]) & ~clashMask(clause, other);
        }

        int countPairsThatClashOnce() {
            int found = 0;
            for (int j = 1; j < count; j++) {
                for (int i = 0; i < j; i++) {
                    if (clashOnce(i, j)) {
                        found++;
                    }
                }
            }
            return found;
        }

        boolean hasRoomForResolvent(int clause, int other) {
            int newPositive = mergedPositive(clause, other);
            int newNegative = mergedNegative(clause, other);
            return !isFull() && indexOf(newPositive, newNegative) == NONE;
        }

        // ---- subsumption

        boolean isWithin(int clause, int outerPositive, int outerNegative) {
            return (positive[clause] & ~outerPositive) == 0
                && (negative[clause] & ~outerNegative) == 0;
        }

        boolean isSomeWithin(int outerPositive, int outerNegative) {
            for (int k = 0; k < count; k++) {
                if (isWithin(k, outerPositive, outerNegative)) {
                    return true;
                }
            }
            return false;
        }

        int firstSubsumer(int clause) {
            for (int k = 0; k < count; k++) {
                if (k != clause && isWithin(k, positive[clause], negative[clause])) {
                    return k;
                }
            }
            return NONE;
        }

        int countSubsumed() {
            int found = 0;
            for (int k = 0; k < count; k++) {
                if (firstSubsumer(k) != NONE) {
                    found++;
                }
            }
            return found;
        }

        // ---- truth

        boolean isTrueUnder(int clause, int assignment) {
            return (positive[clause] & assignment) != 0 || (negative[clause] & ~assignment) != 0;
        }

        // ---- changes

        int addGiven(int newPositive, int newNegative) {
            if (isFull()) {
                return NONE;
            }
            int added = count;
            positive[added] = newPositive;
            negative[added] = newNegative;
            parentWith[added] = NONE;
            parentWithout[added] = NONE;
            pivot[added] = NONE;
            depth[added] = 0;
            count++;
            return added;
        }

        int addResolvent(int clause, int other) {
            int clash = clashMask(clause, other);
            boolean isFirstWith = (positive[clause] & clash) != 0;
            int newDepth = 1 + Math.max(depth[clause], depth[other]);
            int added = addGiven(mergedPositive(clause, other), mergedNegative(clause, other));
            if (added == NONE) {
                return NONE;
            }
            parentWith[added] = isFirstWith ? clause : other;
            parentWithout[added] = isFirstWith ? other : clause;
            pivot[added] = Integer.numberOfTrailingZeros(clash);
            depth[added] = newDepth;
            return added;
        }

        void remove(int clause) {
            for (int k = clause + 1; k < count; k++) {
                positive[k - 1] = positive[k];
                negative[k - 1] = negative[k];
                parentWith[k - 1] = parentWith[k] > clause ? parentWith[k] - 1 : parentWith[k];
                parentWithout[k - 1] =
                    parentWithout[k] > clause ? parentWithout[k] - 1 : parentWithout[k];
                pivot[k - 1] = pivot[k];
                depth[k - 1] = depth[k];
            }
            count--;
        }

        int lastToReduce() {
            for (int k = count - 1; k >= 0; k--) {
                if (!isParent(k) && firstSubsumer(k) != NONE) {
                    return k;
                }
            }
            return NONE;
        }

        int removeSubsumed() {
            int dropped = 0;
            int next = lastToReduce();
            while (next != NONE && dropped < MOST_CLAUSES) {
                remove(next);
                dropped++;
                next = lastToReduce();
            }
            return dropped;
        }

        void negate(int variable) {
            int bit = 1 << variable;
            for (int k = 0; k < count; k++) {
                int both = (positive[k] ^ negative[k]) & bit;
                positive[k] ^= both;
                negative[k] ^= both;
                if (pivot[k] == variable) {
                    int parent = parentWith[k];
                    parentWith[k] = parentWithout[k];
                    parentWithout[k] = parent;
                }
            }
        }
    }

    /** What the assignments say about clauses. */
    private static final class Models {

        static boolean areTrue(Clauses clauses, int assignment, int leftOut) {
            for (int k = 0; k < clauses.count; k++) {
                if (k != leftOut && !clauses.isTrueUnder(k, assignment)) {
                    return false;
                }
            }
            return true;
        }

        static int count(Clauses clauses) {
            int found = 0;
            for (int assignment = 0; assignment <= clauses.allVariables(); assignment++) {
                if (areTrue(clauses, assignment, NONE)) {
                    found++;
                }
            }
            return found;
        }

        static int at(Clauses clauses, int index) {
            int found = 0;
            for (int assignment = 0; assignment <= clauses.allVariables(); assignment++) {
                if (areTrue(clauses, assignment, NONE)) {
                    if (found == index) {
                        return assignment;
                    }
                    found++;
                }
            }
            return NONE;
        }

        static int countFalse(Clauses clauses, int assignment) {
            int found = 0;
            for (int k = 0; k < clauses.count; k++) {
                if (!clauses.isTrueUnder(k, assignment)) {
                    found++;
                }
            }
            return found;
        }

        static int firstBestFlip(Clauses clauses, int assignment) {
            int best = 0;
            int bestFalse = MOST_CLAUSES + 1;
            for (int variable = 0; variable < clauses.variables; variable++) {
                int flipped = countFalse(clauses, assignment ^ 1 << variable);
                if (flipped < bestFalse) {
                    best = variable;
                    bestFalse = flipped;
                }
            }
            return best;
        }

        static int trueInAll(Clauses clauses) {
            int mask = clauses.allVariables();
            for (int assignment = 0; assignment <= clauses.allVariables(); assignment++) {
                if (areTrue(clauses, assignment, NONE)) {
                    mask &= assignment;
                }
            }
            return mask;
        }

        static int falseInAll(Clauses clauses) {
            int mask = clauses.allVariables();
            for (int assignment = 0; assignment <= clauses.allVariables(); assignment++) {
                if (areTrue(clauses, assignment, NONE)) {
                    mask &= ~assignment;
                }
            }
            return mask;
        }

        /** Tells whether the clauses without the one that is left out imply these literals. */
        static boolean imply(Clauses clauses, int positive, int negative, int leftOut) {
            for (int assignment = 0; assignment <= clauses.allVariables(); assignment++) {
                boolean isFalse = (positive & assignment) == 0 && (negative & ~assignment) == 0;
                if (isFalse && areTrue(clauses, assignment, leftOut)) {
                    return false;
                }
            }
            return true;
        }
    }

    /** Unit propagation, with the literals that it has fixed. */
    private static final class Propagation {
        int trueMask = 0;
        int falseMask = 0;

        void run(Clauses clauses) {
            trueMask = 0;
            falseMask = 0;
            boolean isNew = true;
            // A round that goes on fixes a literal, and there are two literals a variable.
            for (int round = 0; isNew && round <= 2 * MOST_VARIABLES; round++) {
                isNew = runRound(clauses);
            }
        }

        private boolean runRound(Clauses clauses) {
            boolean isNew = false;
            for (int k = 0; k < clauses.count; k++) {
                int positive = clauses.positive[k];
                int negative = clauses.negative[k];
                // A clause of one literal fixes it even if its negation is fixed.
                if (clauses.literalsIn(k) != 1) {
                    positive &= ~falseMask;
                    negative &= ~trueMask;
                }
                if (Integer.bitCount(positive) + Integer.bitCount(negative) == 1) {
                    isNew |= (positive & ~trueMask) != 0 || (negative & ~falseMask) != 0;
                    trueMask |= positive;
                    falseMask |= negative;
                }
            }
            return isNew;
        }

        boolean isContradictory(Clauses clauses) {
            return (trueMask & falseMask) != 0 || clauses.isSomeWithin(falseMask, trueMask);
        }
    }

    /** The search for the next step of a saturation. */
    private static final class Saturation {
        int first = 0;
        int second = 1;

        void begin() {
            first = 0;
            second = 1;
        }

        /**
         * Goes on from the pair of the latest step: a saturation only adds clauses, so that a pair
         * that gave no step before gives none later.
         */
        boolean findStep(Clauses clauses) {
            if (clauses.isFull() || clauses.indexOf(0, 0) != NONE) {
                return false;
            }
            for (; second < clauses.count; second++) {
                for (; first < second; first++) {
                    if (clauses.clashOnce(first, second)
                        && !clauses.isSomeWithin(
                            clauses.mergedPositive(first, second),
                            clauses.mergedNegative(first, second))) {
                        return true;
                    }
                }
                first = 0;
            }
            return false;
        }

        int makeSteps(Clauses clauses, int most) {
            begin();
            int made = 0;
            while (made < most && findStep(clauses)) {
                clauses.addResolvent(first, second);
                made++;
            }
            return made;
        }
    }

    /** The states before the latest changes. */
    private static final class History {
        final Clauses[] states = new Clauses[MOST_CHANGES];
        int next = 0;
        int count = 0;

        History() {
            for (int k = 0; k < MOST_CHANGES; k++) {
                states[k] = new Clauses();
            }
        }

        void clear() {
            count = 0;
        }

        /** Writes over the oldest state when all rows are taken. */
        void push(Clauses clauses) {
            states[next].copyFrom(clauses);
            next = next == MOST_CHANGES - 1 ? 0 : next + 1;
            count = Math.min(count + 1, MOST_CHANGES);
        }

        void pop(Clauses clauses) {
            next = next == 0 ? MOST_CHANGES - 1 : next - 1;
            count--;
            clauses.copyFrom(states[next]);
        }
    }

    /** The input buffer, and the token of it that is looked at. */
    private static final class Tokens {
        final byte[] bytes = new byte[MOST_BYTES];
        int length = 0;
        int kind = KIND_END;
        int start = 0;
        int end = 0;

        void addFour(int word) {
            for (int shift = 24; shift >= 0 && length < MOST_BYTES; shift -= 8) {
                bytes[length] = (byte) (word >> shift);
                length++;
            }
        }

        void begin() {
            end = 0;
            advance();
        }

        void advance() {
            start = end;
            while (start < length
                && (bytes[start] == ' ' || bytes[start] == '\t' || bytes[start] == '\n')) {
                start++;
            }
            end = start;
            kind = KIND_WORD;
            while (end < length && bytes[end] >= 'a' && bytes[end] <= 'z') {
                end++;
            }
            if (end > start) {
                return;
            }
            kind = KIND_NUMBER;
            while (end < length && bytes[end] >= '0' && bytes[end] <= '9') {
                end++;
            }
            if (end > start) {
                return;
            }
            kind = KIND_END;
            if (start < length) {
                int mark = bytes[start];
                kind = mark == ';' ? KIND_SEMICOLON : mark == '-' ? KIND_MINUS : KIND_INVALID;
                end = start + 1;
            }
        }

        boolean isWord(String word) {
            if (kind != KIND_WORD || end - start != word.length()) {
                return false;
            }
            for (int k = 0; k < word.length() && start + k < length; k++) {
                if (bytes[start + k] != word.charAt(k)) {
                    return false;
                }
            }
            return true;
        }

        /** Returns the variable of a word of one letter; NONE for any other token. */
        int letter() {
            if (kind != KIND_WORD || end - start != 1 || start >= length) {
                return NONE;
            }
            return bytes[start] - 'a';
        }

        /** Returns the value of a number; NONE if it has too many digits. */
        int number() {
            if (end - start > MOST_DIGITS) {
                return NONE;
            }
            int value = 0;
            for (int k = start; k < end && k < length; k++) {
                value = 10 * value + bytes[k] - '0';
            }
            return value;
        }
    }

    /** Reads a text or a script, and executes its commands on a draft of the clauses. */
    private static final class Script {
        final Tokens tokens = new Tokens();
        final Clauses draft = new Clauses();
        final Saturation saturation = new Saturation();
        final Propagation propagation = new Propagation();
        int errorCode = 0;
        int errorPosition = NONE;
        int commands = 0;
        /** The positive literals of the clause that is read. */
        int positive = 0;
        /** The negative literals of the clause that is read. */
        int negative = 0;

        void begin() {
            errorCode = 0;
            errorPosition = NONE;
            commands = 0;
            tokens.begin();
        }

        void end() {
            tokens.length = 0;
        }

        private boolean isFailed() {
            return errorCode != 0;
        }

        /** Keeps the first error, so that what is called behind an error need not ask for it. */
        private void fail(int code, int position) {
            if (errorCode == 0) {
                errorCode = code;
                errorPosition = position;
            }
        }

        void readHeader() {
            if (!tokens.isWord("logic")) {
                fail(ERROR_TOKEN, tokens.start);
                return;
            }
            tokens.advance();
            int variables = readNumber(1, MOST_VARIABLES);
            readSemicolon();
            if (!isFailed()) {
                draft.begin(variables);
            }
        }

        void readCommands() {
            for (int k = 0; k < MOST_BYTES && !isFailed() && tokens.kind != KIND_END; k++) {
                if (tokens.isWord("clause")) {
                    readClause();
                } else if (tokens.isWord("resolve")) {
                    readResolve();
                } else if (tokens.isWord("saturate")) {
                    readSaturate();
                } else if (tokens.isWord("drop")) {
                    readDrop();
                } else if (tokens.isWord("negate")) {
                    readNegate();
                } else if (tokens.isWord("invert")) {
                    readInvert();
                } else if (tokens.isWord("reduce")) {
                    readReduce();
                } else if (tokens.isWord("expect")) {
                    int position = tokens.start;
                    tokens.advance();
                    if (!readCondition()) {
                        fail(ERROR_EXPECT, position);
                    }
                } else {
                    fail(ERROR_TOKEN, tokens.start);
                }
                readSemicolon();
                commands++;
            }
        }

        private void readClause() {
            int position = tokens.start;
            if (draft.isFull()) {
                fail(ERROR_CLAUSE, position);
                return;
            }
            tokens.advance();
            readLiterals();
            if (isFailed()) {
                return;
            }
            if (draft.indexOf(positive, negative) != NONE) {
                fail(ERROR_CLAUSE, position);
                return;
            }
            draft.addGiven(positive, negative);
        }

        private void readResolve() {
            tokens.advance();
            int clause = readClauseNumber();
            int position = tokens.start;
            int other = readClauseNumber();
            if (clause == NONE || other == NONE) {
                return;
            }
            if (!draft.clashOnce(clause, other) || !draft.hasRoomForResolvent(clause, other)) {
                fail(ERROR_CLAUSE, position);
                return;
            }
            draft.addResolvent(clause, other);
        }

        private void readSaturate() {
            tokens.advance();
            int steps = readNumber(1, MOST_STEPS);
            if (steps != NONE) {
                saturation.makeSteps(draft, steps);
            }
        }

        private void readDrop() {
            tokens.advance();
            int position = tokens.start;
            int clause = readClauseNumber();
            if (clause == NONE) {
                return;
            }
            if (draft.isParent(clause)) {
                fail(ERROR_CLAUSE, position);
                return;
            }
            draft.remove(clause);
        }

        private void readNegate() {
            tokens.advance();
            int variable = readVariable();
            if (variable != NONE) {
                draft.negate(variable);
            }
        }

        private void readInvert() {
            tokens.advance();
            for (int variable = 0; variable < draft.variables; variable++) {
                draft.negate(variable);
            }
        }

        private void readReduce() {
            tokens.advance();
            draft.removeSubsumed();
        }

        /** Reads a condition and tells whether it holds. */
        private boolean readCondition() {
            if (passWord("clauses")) {
                return readValue() == draft.count;
            }
            if (passWord("models")) {
                return readValue() == Models.count(draft);
            }
            if (passWord("refuted")) {
                return draft.indexOf(0, 0) != NONE;
            }
            if (passWord("open")) {
                return draft.indexOf(0, 0) == NONE;
            }
            if (passWord("implied")) {
                readLiterals();
                return Models.imply(draft, positive, negative, NONE);
            }
            if (passWord("fixed")) {
                return readFixed();
            }
            if (passWord("subsumed")) {
                return readValue() == draft.countSubsumed();
            }
            if (passWord("size")) {
                int clause = readClauseNumber();
                int value = readValue();
                return clause != NONE && draft.literalsIn(clause) == value;
            }
            if (passWord("depth")) {
                int clause = readClauseNumber();
                int value = readValue();
                return clause != NONE && draft.depth[clause] == value;
            }
            fail(ERROR_TOKEN, tokens.start);
            return false;
        }

        private boolean passWord(String word) {
            boolean isHere = tokens.isWord(word);
            if (isHere) {
                tokens.advance();
            }
            return isHere;
        }

        private boolean readFixed() {
            positive = 0;
            negative = 0;
            readLiteral();
            propagation.run(draft);
            return (positive & ~propagation.trueMask) == 0
                && (negative & ~propagation.falseMask) == 0;
        }

        private void readLiterals() {
            positive = 0;
            negative = 0;
            for (int k = 0; k < MOST_BYTES && !isFailed(); k++) {
                if (tokens.kind != KIND_WORD && tokens.kind != KIND_MINUS) {
                    return;
                }
                readLiteral();
            }
        }

        private void readLiteral() {
            boolean isNegative = tokens.kind == KIND_MINUS;
            if (isNegative) {
                tokens.advance();
            }
            int position = tokens.start;
            int variable = readVariable();
            if (variable == NONE) {
                return;
            }
            int bit = 1 << variable;
            if (((isNegative ? positive : negative) & bit) != 0) {
                fail(ERROR_OPPOSITE, position);
            } else if (isNegative) {
                negative |= bit;
            } else {
                positive |= bit;
            }
        }

        private int readVariable() {
            int variable = tokens.letter();
            if (variable == NONE) {
                fail(ERROR_TOKEN, tokens.start);
                return NONE;
            }
            if (variable >= draft.variables) {
                fail(ERROR_RANGE, tokens.start);
                return NONE;
            }
            tokens.advance();
            return variable;
        }

        private int readClauseNumber() {
            return readNumber(0, draft.count - 1);
        }

        private int readValue() {
            return readNumber(0, MOST_VALUE);
        }

        /** Returns the number; NONE if there is an error. */
        private int readNumber(int least, int greatest) {
            if (isFailed()) {
                return NONE;
            }
            if (tokens.kind != KIND_NUMBER) {
                fail(ERROR_TOKEN, tokens.start);
                return NONE;
            }
            int value = tokens.number();
            if (value < least || value > greatest) {
                fail(ERROR_RANGE, tokens.start);
                return NONE;
            }
            tokens.advance();
            return value;
        }

        private void readSemicolon() {
            if (isFailed()) {
                return;
            }
            if (tokens.kind != KIND_SEMICOLON) {
                fail(ERROR_TOKEN, tokens.start);
                return;
            }
            tokens.advance();
        }
    }

    /** The output text that was written last. */
    private static final class Output {
        final byte[] bytes = new byte[MOST_OUTPUT_BYTES];
        int length = 0;

        void write(int positive, int negative) {
            length = 0;
            for (int variable = 0; variable < MOST_VARIABLES; variable++) {
                int bit = 1 << variable;
                if (((positive | negative) & bit) != 0) {
                    if (length > 0) {
                        put(' ');
                    }
                    if ((negative & bit) != 0) {
                        put('-');
                    }
                    put('a' + variable);
                }
            }
            if (length == 0) {
                put('#');
            }
        }

        private void put(int value) {
            if (length < MOST_OUTPUT_BYTES) {
                bytes[length] = (byte) value;
                length++;
            }
        }
    }
}
