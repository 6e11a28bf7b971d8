/** Promises 8 to 28: the clauses and their derivations. */
public final class ClausesTest {
    private static final Check CHECK = new Check("ClausesTest");
    private static final int NONE = ResolutionProver.NONE;

    public static void main(String[] args) {
        counts();
        literals();
        find();
        parents();
        derivations();
        sharedDerivations();
        highPremises();
        kinds();
        occurrences();
        pureLiterals();
        noSuchClause();
        CHECK.end();
    }

    /** Promises 8 and 9. */
    private static void counts() {
        ResolutionProver x = Feed.loaded("logic 1;");
        CHECK.equal("variableCount", x.variableCount(), 1);
        CHECK.equal("clauseCount", x.clauseCount(), 0);
        Feed.load(x, "logic 12;clause a;clause b;");
        CHECK.equal("variableCount", x.variableCount(), 12);
        CHECK.equal("clauseCount", x.clauseCount(), 2);
        for (int mask = 3; x.clauseCount() < 60; mask++) {
            x.addClause(mask, 0);
        }
        CHECK.equal("clauseCount", x.clauseCount(), 60);
        CHECK.equal("positiveOf(59)", x.positiveOf(59), 60);
        CHECK.noIndex("positiveOf(60)", () -> x.positiveOf(60));
    }

    /** Promises 10, 11 and 12. */
    private static void literals() {
        ResolutionProver x = Feed.loaded("logic 12;clause a -b l;clause;clause -l -k -a;");
        CHECK.equal("positiveOf", x.positiveOf(0), 2049);
        CHECK.equal("negativeOf", x.negativeOf(0), 2);
        CHECK.equal("sizeOf", x.sizeOf(0), 3);
        CHECK.equal("positiveOf", x.positiveOf(1), 0);
        CHECK.equal("negativeOf", x.negativeOf(1), 0);
        CHECK.equal("sizeOf", x.sizeOf(1), 0);
        CHECK.equal("positiveOf", x.positiveOf(2), 0);
        CHECK.equal("negativeOf", x.negativeOf(2), 3073);
        CHECK.equal("sizeOf", x.sizeOf(2), 3);
        Feed.load(x, "logic 12;clause -a b -c d -e f -g h -i j -k l;");
        CHECK.equal("sizeOf", x.sizeOf(0), 12);
    }

    /** Promise 13. */
    private static void find() {
        ResolutionProver x = Feed.loaded("logic 3;clause a -b;clause b -a;clause c;clause -c;");
        CHECK.equal("find", x.find(1, 2), 0);
        CHECK.equal("find", x.find(2, 1), 1);
        CHECK.equal("find", x.find(4, 0), 2);
        CHECK.equal("find", x.find(0, 4), 3);
        CHECK.equal("find", x.find(0, 0), NONE);
        CHECK.equal("find", x.find(1, 0), NONE);
        CHECK.equal("find", x.find(7, 0), NONE);
        CHECK.noArgument("find(8, 0)", () -> x.find(8, 0));
        CHECK.noArgument("find(0, 8)", () -> x.find(0, 8));
        CHECK.noArgument("find(-1, 0)", () -> x.find(-1, 0));
        CHECK.noArgument("find(0, -1)", () -> x.find(0, -1));
        CHECK.noArgument("find(least, 0)", () -> x.find(Integer.MIN_VALUE, 0));
        CHECK.noArgument("find(0, 4096)", () -> x.find(0, 4096));
        CHECK.noArgument("find(5, 4)", () -> x.find(5, 4));
        Feed.play(x, "clause;");
        CHECK.equal("find", x.find(0, 0), 4);
    }

    /** Promises 14 to 17. */
    private static void parents() {
        ResolutionProver x = Feed.loaded("logic 3;clause -c a;clause c b;clause -b;");
        CHECK.equal("resolve", x.resolve(0, 1), 3);
        CHECK.equal("resolve", x.resolve(2, 3), 4);
        CHECK.yes("isGiven", x.isGiven(0));
        CHECK.yes("isGiven", x.isGiven(2));
        CHECK.no("isGiven", x.isGiven(3));
        CHECK.equal("positiveParent", x.positiveParent(0), NONE);
        CHECK.equal("negativeParent", x.negativeParent(0), NONE);
        CHECK.equal("variableOf", x.variableOf(0), NONE);
        CHECK.equal("positiveParent", x.positiveParent(3), 1);
        CHECK.equal("negativeParent", x.negativeParent(3), 0);
        CHECK.equal("variableOf", x.variableOf(3), 2);
        CHECK.equal("positiveParent", x.positiveParent(4), 3);
        CHECK.equal("negativeParent", x.negativeParent(4), 2);
        CHECK.equal("variableOf", x.variableOf(4), 1);
    }

    /** Promises 18 to 21. */
    private static void derivations() {
        ResolutionProver x = new ResolutionProver();
        CHECK.equal("deepestClause", x.deepestClause(), NONE);
        Feed.load(x, "logic 4;clause d;clause a b;clause -a c;clause -b;clause -c;");
        CHECK.equal("deepestClause", x.deepestClause(), 0);
        x.resolve(1, 2);
        x.resolve(3, 1);
        x.resolve(5, 3);
        x.resolve(4, 7);
        CHECK.equal("depthOf", x.depthOf(0), 0);
        CHECK.equal("depthOf", x.depthOf(5), 1);
        CHECK.equal("depthOf", x.depthOf(6), 1);
        CHECK.equal("depthOf", x.depthOf(7), 2);
        CHECK.equal("depthOf", x.depthOf(8), 3);
        CHECK.equal("deepestClause", x.deepestClause(), 8);
        CHECK.equal("derivationSize", x.derivationSize(0), 1);
        CHECK.equal("derivationSize", x.derivationSize(5), 3);
        CHECK.equal("derivationSize", x.derivationSize(7), 5);
        CHECK.equal("derivationSize", x.derivationSize(8), 7);
        CHECK.equal("premises", x.premises(0), 1);
        CHECK.equal("premises", x.premises(5), 6);
        CHECK.equal("premises", x.premises(6), 10);
        CHECK.equal("premises", x.premises(8), 30);
        x.dropClause(0);
        CHECK.equal("depthOf", x.depthOf(7), 3);
        CHECK.equal("premises", x.premises(7), 15);
        x.dropClause(7);
        x.dropClause(6);
        CHECK.equal("the lowest of the deepest", x.deepestClause(), 4);
    }

    /** A clause that stands twice in a derivation counts once. */
    private static void sharedDerivations() {
        ResolutionProver x =
            Feed.loaded("logic 3;clause a b;clause -a b;clause a -b;clause -b -a;");
        CHECK.equal("resolve", x.resolve(0, 1), 4);
        CHECK.equal("resolve", x.resolve(4, 2), 5);
        CHECK.equal("resolve", x.resolve(4, 3), 6);
        CHECK.equal("resolve", x.resolve(5, 6), 7);
        CHECK.equal("sizeOf", x.sizeOf(7), 0);
        CHECK.equal("derivationSize", x.derivationSize(7), 8);
        CHECK.equal("premises", x.premises(7), 15);
        CHECK.equal("premises", x.premises(6), 11);
        CHECK.equal("depthOf", x.depthOf(7), 3);
    }

    /** The mask has bits above those of an int. */
    private static void highPremises() {
        ResolutionProver x = Feed.loaded("logic 12;");
        for (int mask = 1; x.clauseCount() < 57; mask++) {
            x.addClause(mask, 0);
        }
        CHECK.equal("addClause", x.addClause(0, 2048), 57);
        CHECK.equal("addClause", x.addClause(2048, 3), 58);
        CHECK.equal("resolve", x.resolve(57, 58), 59);
        CHECK.equal("premises", x.premises(59), 3L << 57);
        CHECK.equal("premises", x.premises(58), 1L << 58);
        CHECK.equal("premises", x.premises(31), 1L << 31);
        CHECK.equal("premises", x.premises(32), 1L << 32);
        CHECK.equal("derivationSize", x.derivationSize(59), 3);
    }

    /** Promises 22, 23 and 24. */
    private static void kinds() {
        ResolutionProver x =
            Feed.loaded("logic 4;clause a b;clause -a -b;clause c -d -b;clause d;clause a b c;");
        CHECK.equal("emptyClause", x.emptyClause(), NONE);
        CHECK.equal("clausesOfSize(0)", x.clausesOfSize(0), 0);
        CHECK.equal("clausesOfSize(1)", x.clausesOfSize(1), 1);
        CHECK.equal("clausesOfSize(2)", x.clausesOfSize(2), 2);
        CHECK.equal("clausesOfSize(3)", x.clausesOfSize(3), 2);
        CHECK.equal("clausesOfSize(4)", x.clausesOfSize(4), 0);
        CHECK.equal("clausesOfSize(-1)", x.clausesOfSize(-1), 0);
        CHECK.equal("clausesOfSize(least)", x.clausesOfSize(Integer.MIN_VALUE), 0);
        CHECK.equal("hornClauses", x.hornClauses(), 3);
        x.addClause(0, 0);
        CHECK.equal("emptyClause", x.emptyClause(), 5);
        CHECK.equal("clausesOfSize(0)", x.clausesOfSize(0), 1);
        CHECK.equal("hornClauses", x.hornClauses(), 4);
        x.undo();
        CHECK.equal("emptyClause", x.emptyClause(), NONE);
    }

    /** Promises 25 and 26. */
    private static void occurrences() {
        ResolutionProver x = new ResolutionProver();
        CHECK.equal("mostFrequentVariable", x.mostFrequentVariable(), 0);
        Feed.load(x, "logic 4;clause a b;clause -b c;clause -b -d;clause d c;clause;");
        CHECK.equal("occurrences", x.occurrences(0, true), 1);
        CHECK.equal("occurrences", x.occurrences(0, false), 0);
        CHECK.equal("occurrences", x.occurrences(1, true), 1);
        CHECK.equal("occurrences", x.occurrences(1, false), 2);
        CHECK.equal("occurrences", x.occurrences(2, true), 2);
        CHECK.equal("occurrences", x.occurrences(3, false), 1);
        CHECK.noIndex("occurrences(4)", () -> x.occurrences(4, true));
        CHECK.noIndex("occurrences(-1)", () -> x.occurrences(-1, false));
        CHECK.noIndex("occurrences(32)", () -> x.occurrences(32, false));
        CHECK.equal("mostFrequentVariable", x.mostFrequentVariable(), 1);
        x.addClause(4, 1);
        CHECK.equal("the lowest of several", x.mostFrequentVariable(), 1);
        x.addClause(4, 8);
        CHECK.equal("mostFrequentVariable", x.mostFrequentVariable(), 2);
    }

    /** Promises 27 and 28. */
    private static void pureLiterals() {
        ResolutionProver x = new ResolutionProver();
        CHECK.equal("purePositive", x.purePositive(), 0);
        CHECK.equal("pureNegative", x.pureNegative(), 0);
        Feed.load(x, "logic 5;clause a b;clause -b a;clause -c b;clause -d -b;");
        CHECK.equal("purePositive", x.purePositive(), 1);
        CHECK.equal("pureNegative", x.pureNegative(), 12);
        x.addClause(12, 1);
        CHECK.equal("purePositive", x.purePositive(), 0);
        CHECK.equal("pureNegative", x.pureNegative(), 0);
    }

    /** The methods with a clause throw for one that does not exist. */
    private static void noSuchClause() {
        ResolutionProver x = Feed.loaded("logic 4;clause a;clause b;");
        for (int clause : new int[] {-1, 2, 60, 64, Integer.MIN_VALUE, Integer.MAX_VALUE}) {
            CHECK.noIndex("positiveOf", () -> x.positiveOf(clause));
            CHECK.noIndex("negativeOf", () -> x.negativeOf(clause));
            CHECK.noIndex("sizeOf", () -> x.sizeOf(clause));
            CHECK.noIndex("isGiven", () -> x.isGiven(clause));
            CHECK.noIndex("positiveParent", () -> x.positiveParent(clause));
            CHECK.noIndex("negativeParent", () -> x.negativeParent(clause));
            CHECK.noIndex("variableOf", () -> x.variableOf(clause));
            CHECK.noIndex("depthOf", () -> x.depthOf(clause));
            CHECK.noIndex("derivationSize", () -> x.derivationSize(clause));
            CHECK.noIndex("premises", () -> x.premises(clause));
        }
    }
}
