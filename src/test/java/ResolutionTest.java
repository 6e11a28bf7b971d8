/** Promises 29 to 39: resolution, subsumption and the next step. */
public final class ResolutionTest {
    private static final Check CHECK = new Check("ResolutionTest");
    private static final int NONE = ResolutionProver.NONE;

    public static void main(String[] args) {
        clashes();
        resolvents();
        pairs();
        subsumption();
        nextStep();
        noNextStep();
        stepsToEmpty();
        noSuchClause();
        CHECK.end();
    }

    /** Promises 29 and 30. */
    private static void clashes() {
        ResolutionProver x =
            Feed.loaded("logic 4;clause a b -c;clause -a -b c;clause -b -a d;clause c;clause;");
        CHECK.equal("clashes", x.clashes(0, 1), 3);
        CHECK.equal("clashes", x.clashes(1, 0), 3);
        CHECK.equal("clashes", x.clashes(0, 2), 2);
        CHECK.equal("clashes", x.clashes(0, 3), 1);
        CHECK.equal("clashes", x.clashes(3, 0), 1);
        CHECK.equal("clashes", x.clashes(1, 2), 0);
        CHECK.equal("clashes", x.clashes(0, 0), 0);
        CHECK.equal("clashes", x.clashes(0, 4), 0);
        CHECK.no("areResolvable", x.areResolvable(0, 1));
        CHECK.no("areResolvable", x.areResolvable(0, 2));
        CHECK.yes("areResolvable", x.areResolvable(0, 3));
        CHECK.yes("areResolvable", x.areResolvable(3, 0));
        CHECK.no("areResolvable", x.areResolvable(1, 2));
        CHECK.no("areResolvable", x.areResolvable(3, 3));
        CHECK.no("areResolvable", x.areResolvable(4, 4));
    }

    /** Promises 31 and 32. */
    private static void resolvents() {
        ResolutionProver x =
            Feed.loaded("logic 5;clause a b -c;clause c b -d e;clause -a -b;clause -c;clause c;");
        CHECK.equal("resolventPositive", x.resolventPositive(0, 1), 19);
        CHECK.equal("resolventNegative", x.resolventNegative(0, 1), 8);
        CHECK.equal("resolventPositive", x.resolventPositive(1, 0), 19);
        CHECK.equal("resolventNegative", x.resolventNegative(1, 0), 8);
        CHECK.equal("resolventPositive", x.resolventPositive(0, 2), NONE);
        CHECK.equal("resolventNegative", x.resolventNegative(0, 2), NONE);
        CHECK.equal("resolventPositive", x.resolventPositive(0, 0), NONE);
        CHECK.equal("resolventNegative", x.resolventNegative(0, 0), NONE);
        CHECK.equal("resolventPositive", x.resolventPositive(0, 3), NONE);
        CHECK.equal("resolventPositive", x.resolventPositive(3, 4), 0);
        CHECK.equal("resolventNegative", x.resolventNegative(3, 4), 0);
        CHECK.equal("nothing is added", x.clauseCount(), 5);
    }

    /** Promise 33. */
    private static void pairs() {
        ResolutionProver x = new ResolutionProver();
        CHECK.equal("resolvablePairs", x.resolvablePairs(), 0);
        x.addClause(1, 0);
        CHECK.equal("resolvablePairs", x.resolvablePairs(), 0);
        x.addClause(2, 1);
        CHECK.equal("resolvablePairs", x.resolvablePairs(), 1);
        x.addClause(1, 2);
        CHECK.equal("a pair that clashes twice", x.resolvablePairs(), 1);
        x.addClause(0, 2);
        CHECK.equal("resolvablePairs", x.resolvablePairs(), 2);
        x.addClause(0, 0);
        CHECK.equal("resolvablePairs", x.resolvablePairs(), 2);
    }

    /** Promises 34, 35 and 36. */
    private static void subsumption() {
        ResolutionProver x =
            Feed.loaded("logic 4;clause a -b c;clause a -b;clause c;clause -a;clause a c -d;");
        CHECK.yes("subsumes", x.subsumes(1, 0));
        CHECK.no("subsumes", x.subsumes(0, 1));
        CHECK.yes("subsumes", x.subsumes(2, 0));
        CHECK.no("subsumes", x.subsumes(3, 0));
        CHECK.yes("subsumes itself", x.subsumes(0, 0));
        CHECK.no("subsumes", x.subsumes(1, 4));
        CHECK.equal("the lowest subsumer", x.subsumerOf(0), 1);
        CHECK.equal("subsumerOf", x.subsumerOf(1), NONE);
        CHECK.equal("subsumerOf", x.subsumerOf(2), NONE);
        CHECK.equal("subsumerOf", x.subsumerOf(4), 2);
        CHECK.equal("subsumedClauses", x.subsumedClauses(), 2);
        x.addClause(0, 0);
        CHECK.yes("the empty clause subsumes", x.subsumes(5, 3));
        CHECK.no("subsumes", x.subsumes(3, 5));
        CHECK.equal("subsumerOf", x.subsumerOf(3), 5);
        CHECK.equal("subsumerOf", x.subsumerOf(0), 1);
        CHECK.equal("subsumerOf the empty clause", x.subsumerOf(5), NONE);
        CHECK.equal("subsumedClauses", x.subsumedClauses(), 5);
    }

    /** Promises 37 and 38: the smallest j first, then the smallest i. */
    private static void nextStep() {
        ResolutionProver x = Feed.loaded("logic 5;clause a b;clause -b c;clause -a d;");
        CHECK.equal("nextFirst", x.nextFirst(), 0);
        CHECK.equal("nextSecond", x.nextSecond(), 1);
        Feed.load(x, "logic 5;clause a b;clause c d;clause -c e;clause -a d;");
        CHECK.equal("nextFirst", x.nextFirst(), 1);
        CHECK.equal("nextSecond", x.nextSecond(), 2);
        Feed.load(x, "logic 5;clause a b;clause a c;clause d;clause -a d e;clause -a e;");
        CHECK.equal("nextFirst behind subsumed ones", x.nextFirst(), 0);
        CHECK.equal("nextSecond behind subsumed ones", x.nextSecond(), 4);
        Feed.load(x, "logic 5;clause a b;clause -a c;clause b c;clause -b e;");
        CHECK.equal("nextFirst behind a resolvent that exists", x.nextFirst(), 0);
        CHECK.equal("nextSecond behind a resolvent that exists", x.nextSecond(), 3);
        Feed.load(x, "logic 5;clause a b;clause -a -b;");
        CHECK.equal("nextFirst of two clashes", x.nextFirst(), NONE);
        CHECK.equal("nextSecond of two clashes", x.nextSecond(), NONE);
    }

    private static void noNextStep() {
        ResolutionProver x = new ResolutionProver();
        CHECK.equal("nextFirst", x.nextFirst(), NONE);
        CHECK.equal("nextSecond", x.nextSecond(), NONE);
        Feed.load(x, "logic 12;clause a b;clause -a c;clause;");
        CHECK.equal("nextFirst with an empty clause", x.nextFirst(), NONE);
        CHECK.equal("nextSecond with an empty clause", x.nextSecond(), NONE);
        Feed.load(x, "logic 12;clause a b;clause -a c;");
        for (int mask = 8; x.clauseCount() < 59; mask += 8) {
            x.addClause(mask, 0);
        }
        CHECK.equal("nextFirst with 59 clauses", x.nextFirst(), 0);
        CHECK.equal("nextSecond with 59 clauses", x.nextSecond(), 1);
        CHECK.equal("stepsToEmpty", x.stepsToEmpty(), NONE);
        x.addClause(2048, 1024);
        CHECK.equal("nextFirst with 60 clauses", x.nextFirst(), NONE);
        CHECK.equal("nextSecond with 60 clauses", x.nextSecond(), NONE);
    }

    /** Promise 39. */
    private static void stepsToEmpty() {
        ResolutionProver x = new ResolutionProver();
        CHECK.equal("stepsToEmpty", x.stepsToEmpty(), NONE);
        Feed.load(x, "logic 3;clause a b;clause -a b;clause a -b;clause -a -b;");
        String state = Feed.state(x);
        CHECK.equal("stepsToEmpty", x.stepsToEmpty(), 5);
        CHECK.same("nothing is changed", Feed.state(x), state);
        CHECK.equal("undoDepth", x.undoDepth(), 0);
        for (int left = 4; left >= 0; left--) {
            x.saturate(1);
            CHECK.equal("stepsToEmpty", x.stepsToEmpty(), left);
        }
        CHECK.yes("emptyClause", x.emptyClause() != NONE);
        Feed.load(x, "logic 3;clause a b;clause -a b;clause a -b;");
        CHECK.equal("stepsToEmpty", x.stepsToEmpty(), NONE);
        Feed.load(x, "logic 12;clause a;clause -a;");
        for (int mask = 8; x.clauseCount() < 59; mask += 8) {
            x.addClause(mask, 0);
        }
        CHECK.equal("the empty clause is the last one", x.stepsToEmpty(), 1);
        x.addClause(2048, 1024);
        CHECK.equal("there is no room for it", x.stepsToEmpty(), NONE);
    }

    private static void noSuchClause() {
        ResolutionProver x = Feed.loaded("logic 4;clause a;clause -a;");
        for (int clause : new int[] {-1, 2, 60, 64, Integer.MIN_VALUE, Integer.MAX_VALUE}) {
            CHECK.noIndex("clashes", () -> x.clashes(clause, 0));
            CHECK.noIndex("clashes", () -> x.clashes(0, clause));
            CHECK.noIndex("areResolvable", () -> x.areResolvable(clause, 0));
            CHECK.noIndex("areResolvable", () -> x.areResolvable(0, clause));
            CHECK.noIndex("resolventPositive", () -> x.resolventPositive(clause, 0));
            CHECK.noIndex("resolventPositive", () -> x.resolventPositive(0, clause));
            CHECK.noIndex("resolventNegative", () -> x.resolventNegative(clause, 0));
            CHECK.noIndex("resolventNegative", () -> x.resolventNegative(0, clause));
            CHECK.noIndex("subsumes", () -> x.subsumes(clause, 0));
            CHECK.noIndex("subsumes", () -> x.subsumes(0, clause));
            CHECK.noIndex("subsumerOf", () -> x.subsumerOf(clause));
        }
    }
}
