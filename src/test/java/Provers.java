/** Provers to start a test from, and the ints at the edges of a range. */
final class Provers {
    /** The implications of a ring of twelve variables: 132 clauses follow, and no empty one. */
    static final String RING = "logic 12;clause -a b;clause -b c;clause -c d;clause -d e;"
        + "clause -e f;clause -f g;clause -g h;clause -h i;clause -i j;clause -j k;clause -k l;"
        + "clause -l a;";

    private Provers() {
    }

    static ResolutionProver withVariables(int variables) {
        return Feed.loaded("logic " + variables + ";");
    }

    /** Twelve variables and different clauses of positive literals: clause k has the mask k + 1. */
    static ResolutionProver withClauses(int count) {
        ResolutionProver x = withVariables(12);
        for (int k = 0; k < count; k++) {
            x.addClause(k + 1, 0);
        }
        return x;
    }

    /** Twelve given clauses and the resolvents of so many steps, 48 at most. */
    static ResolutionProver ofRing(int steps) {
        return Feed.loaded(RING + "saturate " + steps + ";");
    }

    /**
     * A prover with something everywhere: given clauses and resolvents, changes to undo, one full
     * slot, an output text, bytes in the input buffer, and a parse error.
     */
    static ResolutionProver worked() {
        ResolutionProver x = Feed.loaded("logic 4;clause a b;clause -a;clause -b c;");
        x.addClause(8, 4);
        x.save(1);
        x.resolve(0, 1);
        x.resolve(2, 4);
        x.negateVariable(2);
        x.writeClause(0);
        Feed.put(x, "drop 3;drop 0;");
        try {
            x.play();
        } catch (IllegalArgumentException e) {
            Feed.put(x, "clause d -a;drop 1;");
        }
        return x;
    }

    /** A worked prover with 60 clauses: 13 given ones, and resolvents. */
    static ResolutionProver workedAndFull() {
        ResolutionProver x = ofRing(45);
        x.save(0);
        x.addClause(3, 4);
        x.saturate(99);
        x.writeClause(59);
        Feed.put(x, "reduce;");
        return x;
    }

    /** Ints below the least and above the greatest one, among them those that a shift wraps. */
    static int[] outside(int least, int greatest) {
        return new int[] {Integer.MIN_VALUE, Integer.MIN_VALUE + 1, least - 256, least - 64,
            least - 32, least - 1, greatest + 1, greatest + 2, greatest + 32, greatest + 33,
            greatest + 64, greatest + 256, greatest + 65536, Integer.MAX_VALUE - 1,
            Integer.MAX_VALUE};
    }

    /** Ints that are no mask of so many variables: negative ones, or with a bit beyond them. */
    static int[] noMasks(int variables) {
        int next = 1 << variables;
        return new int[] {-1, -2, -next, -next - 1, Integer.MIN_VALUE, Integer.MIN_VALUE | 1, next,
            next | 1, 2 * next - 1, 2 * next, 1 << 30, Integer.MAX_VALUE};
    }
}
