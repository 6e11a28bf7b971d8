/** The edges that promises 8 to 28 name: the clauses, their derivations, and their counts. */
public final class BoundsOfClausesTest {
    private static final Check CHECK = new Check("BoundsOfClausesTest");
    private static final Edges EDGES = new Edges(CHECK);
    private static final int NONE = ResolutionProver.NONE;

    public static void main(String[] args) {
        CHECK.runPromises(BoundsOfClausesTest.class);
        CHECK.end();
    }

    // ---- the state

    static void promise8VariableCountFrom1To12() {
        for (int variables = 1; variables <= 12; variables++) {
            CHECK.equal("variableCount", Provers.withVariables(variables).variableCount(),
                variables);
        }
        ResolutionProver x = Provers.withVariables(12);
        for (int variables : new int[] {0, 13}) {
            Feed.put(x, "logic " + variables + ";");
            CHECK.noArgument("load", x::load);
            CHECK.equal("variableCount", x.variableCount(), 12);
        }
    }

    static void promise9ClauseCountFrom0To60() {
        ResolutionProver x = Provers.withVariables(12);
        CHECK.equal("clauseCount", x.clauseCount(), 0);
        for (int count = 1; count <= 60; count++) {
            x.addClause(count, 0);
            CHECK.equal("clauseCount", x.clauseCount(), count);
        }
        CHECK.noState("addClause", () -> x.addClause(61, 0));
        CHECK.equal("clauseCount", x.clauseCount(), 60);
        ResolutionProver y = Provers.ofRing(99);
        CHECK.equal("clauseCount", y.clauseCount(), 60);
        CHECK.noState("resolve", () -> y.resolve(0, 1));
        CHECK.noState("saturate", () -> y.saturate(99));
        CHECK.equal("clauseCount", y.clauseCount(), 60);
    }

    static void promise10PositiveOfTheNumbersOfAllClauses() {
        EDGES.clauseNumbers("positiveOf", ResolutionProver::positiveOf);
        ResolutionProver x = Provers.withClauses(60);
        CHECK.equal("positiveOf(0)", x.positiveOf(0), 1);
        CHECK.equal("positiveOf(59)", x.positiveOf(59), 60);
    }

    static void promise10PositiveOfTheSmallestAndTheGreatestMask() {
        ResolutionProver x = Provers.withVariables(12);
        x.addClause(0, 4095);
        x.addClause(4095, 0);
        x.addClause(2048, 2047);
        CHECK.equal("positiveOf", x.positiveOf(0), 0);
        CHECK.equal("positiveOf", x.positiveOf(1), 4095);
        CHECK.equal("positiveOf", x.positiveOf(2), 2048);
    }

    static void promise11NegativeOfTheNumbersOfAllClauses() {
        EDGES.clauseNumbers("negativeOf", ResolutionProver::negativeOf);
        ResolutionProver x = Provers.withClauses(59);
        x.addClause(1, 2048);
        CHECK.equal("negativeOf(0)", x.negativeOf(0), 0);
        CHECK.equal("negativeOf(59)", x.negativeOf(59), 2048);
    }

    static void promise11NegativeOfTheSmallestAndTheGreatestMask() {
        ResolutionProver x = Provers.withVariables(12);
        x.addClause(0, 4095);
        x.addClause(4095, 0);
        x.addClause(2048, 2047);
        CHECK.equal("negativeOf", x.negativeOf(0), 4095);
        CHECK.equal("negativeOf", x.negativeOf(1), 0);
        CHECK.equal("negativeOf", x.negativeOf(2), 2047);
    }

    static void promise12SizeOfTheNumbersOfAllClauses() {
        EDGES.clauseNumbers("sizeOf", ResolutionProver::sizeOf);
    }

    static void promise12SizeOfFrom0To12() {
        ResolutionProver x = Provers.withVariables(12);
        for (int size = 0; size <= 12; size++) {
            int positive = (1 << size) - 1 & 0x555;
            int negative = (1 << size) - 1 & 0xaaa;
            CHECK.equal("sizeOf", x.sizeOf(x.addClause(positive, negative)), size);
        }
        CHECK.equal("sizeOf", x.sizeOf(x.addClause(4095, 0)), 12);
        CHECK.equal("sizeOf", x.sizeOf(x.addClause(0, 4095)), 12);
    }

    static void promise13FindRefusesWhatIsNoClause() {
        EDGES.literals("find", ResolutionProver::find);
    }

    static void promise13FindTheFirstAndTheLastClause() {
        ResolutionProver x = Provers.withClauses(60);
        CHECK.equal("find", x.find(1, 0), 0);
        CHECK.equal("find", x.find(60, 0), 59);
        CHECK.equal("find", x.find(61, 0), NONE);
        CHECK.equal("find", x.find(0, 1), NONE);
        CHECK.equal("find", x.find(0, 0), NONE);
        x.dropClause(59);
        CHECK.equal("find of a dropped clause", x.find(60, 0), NONE);
        x.addClause(0, 0);
        CHECK.equal("find of the empty clause", x.find(0, 0), 59);
        CHECK.equal("find without clauses", new ResolutionProver().find(0, 0), NONE);
        CHECK.equal("find without clauses", new ResolutionProver().find(15, 0), NONE);
    }

    static void promise13FindAsksForBothMasks() {
        ResolutionProver x = new ResolutionProver();
        x.addClause(3, 4);
        CHECK.equal("find", x.find(3, 4), 0);
        CHECK.equal("find", x.find(4, 3), NONE);
        CHECK.equal("find", x.find(3, 0), NONE);
        CHECK.equal("find", x.find(3, 12), NONE);
        CHECK.equal("find", x.find(1, 4), NONE);
        CHECK.equal("find", x.find(11, 4), NONE);
    }

    // ---- parents

    static void promise14IsGivenOfTheNumbersOfAllClauses() {
        EDGES.clauseNumbers("isGiven", ResolutionProver::isGiven);
        ResolutionProver x = Provers.ofRing(48);
        CHECK.yes("isGiven(0)", x.isGiven(0));
        CHECK.yes("isGiven(11)", x.isGiven(11));
        CHECK.no("isGiven(12)", x.isGiven(12));
        CHECK.no("isGiven(59)", x.isGiven(59));
    }

    static void promise15PositiveParentOfTheNumbersOfAllClauses() {
        EDGES.clauseNumbers("positiveParent", ResolutionProver::positiveParent);
        CHECK.equal("of a given clause", Provers.ofRing(48).positiveParent(0), NONE);
        CHECK.equal("of a given clause", Provers.ofRing(48).positiveParent(11), NONE);
    }

    static void promise16NegativeParentOfTheNumbersOfAllClauses() {
        EDGES.clauseNumbers("negativeParent", ResolutionProver::negativeParent);
        CHECK.equal("of a given clause", Provers.ofRing(48).negativeParent(0), NONE);
        CHECK.equal("of a given clause", Provers.ofRing(48).negativeParent(11), NONE);
    }

    static void promise17VariableOfTheNumbersOfAllClauses() {
        EDGES.clauseNumbers("variableOf", ResolutionProver::variableOf);
        CHECK.equal("of a given clause", Provers.ofRing(48).variableOf(0), NONE);
        CHECK.equal("of a given clause", Provers.ofRing(48).variableOf(11), NONE);
    }

    /** The parent with the number 0, the variable with the number 0, and both orders. */
    static void promise15PositiveParentAndItsNegativeOneInBothOrders() {
        for (int variable : new int[] {0, 11}) {
            ResolutionProver x = Provers.withVariables(12);
            x.addClause(1 << variable, 2);
            x.addClause(0, 1 << variable);
            x.addClause(1 << variable, 4);
            CHECK.equal("resolve", x.resolve(0, 1), 3);
            CHECK.equal("resolve", x.resolve(1, 2), 4);
            CHECK.equal("positiveParent(3)", x.positiveParent(3), 0);
            CHECK.equal("negativeParent(3)", x.negativeParent(3), 1);
            CHECK.equal("positiveParent(4)", x.positiveParent(4), 2);
            CHECK.equal("negativeParent(4)", x.negativeParent(4), 1);
            CHECK.equal("variableOf(3)", x.variableOf(3), variable);
            CHECK.equal("variableOf(4)", x.variableOf(4), variable);
        }
    }

    static void promise16NegativeParentWithTheGreatestNumbers() {
        ResolutionProver x = Provers.withClauses(57);
        x.addClause(2048, 1);
        x.addClause(1024, 2048);
        CHECK.equal("resolve", x.resolve(58, 57), 59);
        CHECK.equal("positiveParent(59)", x.positiveParent(59), 57);
        CHECK.equal("negativeParent(59)", x.negativeParent(59), 58);
        CHECK.equal("variableOf(59)", x.variableOf(59), 11);
    }

    // ---- derivations

    static void promise18DepthOfTheNumbersOfAllClauses() {
        EDGES.clauseNumbers("depthOf", ResolutionProver::depthOf);
    }

    /** Eleven steps along the ring lead from a (clause 12) to l (clause 23). */
    private static ResolutionProver longDerivation() {
        ResolutionProver x = Feed.loaded(Provers.RING);
        x.addClause(1, 0);
        for (int k = 0; k < 11; k++) {
            x.resolve(12 + k, k);
        }
        return x;
    }

    static void promise18DepthOfALongDerivation() {
        ResolutionProver x = longDerivation();
        CHECK.equal("depthOf a given clause", x.depthOf(0), 0);
        for (int k = 0; k < 12; k++) {
            CHECK.equal("depthOf " + (12 + k), x.depthOf(12 + k), k);
        }
        x.addClause(0, 2048);
        CHECK.equal("resolve", x.resolve(23, 24), 25);
        CHECK.equal("the greater depth is the first one's", x.depthOf(25), 12);
        x.undo();
        CHECK.equal("resolve", x.resolve(24, 23), 25);
        CHECK.equal("the greater depth is the second one's", x.depthOf(25), 12);
    }

    /** The depth goes with its clause, and a given clause has none in the place of a resolvent. */
    static void promise18DepthOfWhatComesBehindADroppedClause() {
        ResolutionProver x = Feed.loaded("logic 4;clause d;clause a;clause -a b;");
        x.resolve(1, 2);
        x.dropClause(0);
        CHECK.equal("of a given clause", x.depthOf(1), 0);
        CHECK.equal("of a resolvent", x.depthOf(2), 1);
        CHECK.equal("deepestClause", x.deepestClause(), 2);
        x.dropClause(2);
        CHECK.equal("deepestClause", x.deepestClause(), 0);
        x.addClause(4, 0);
        CHECK.equal("of a given clause in its place", x.depthOf(2), 0);
        x.undo();
        x.undo();
        CHECK.equal("of the resolvent again", x.depthOf(2), 1);
        x.undo();
        CHECK.equal("of a given clause again", x.depthOf(2), 0);
        CHECK.equal("of the resolvent again", x.depthOf(3), 1);
    }

    static void promise19DeepestClauseIsTheLowestOfSeveral() {
        ResolutionProver x = Provers.withClauses(60);
        CHECK.equal("of given clauses", x.deepestClause(), 0);
        ResolutionProver y = Feed.loaded("logic 4;clause a b;clause -a c;clause -a d;");
        y.resolve(0, 1);
        y.resolve(0, 2);
        CHECK.equal("of two resolvents", y.deepestClause(), 3);
        CHECK.equal("the last one", longDerivation().deepestClause(), 23);
    }

    static void promise19DeepestClauseIsNoneWithoutClauses() {
        ResolutionProver x = new ResolutionProver();
        CHECK.equal("deepestClause", x.deepestClause(), NONE);
        x.addClause(0, 0);
        CHECK.equal("deepestClause", x.deepestClause(), 0);
        x.dropClause(0);
        CHECK.equal("deepestClause", x.deepestClause(), NONE);
    }

    static void promise20DerivationSizeOfTheNumbersOfAllClauses() {
        EDGES.clauseNumbers("derivationSize", ResolutionProver::derivationSize);
        CHECK.equal("of a given clause", Provers.withClauses(60).derivationSize(59), 1);
        CHECK.equal("of the longest one", longDerivation().derivationSize(23), 23);
        CHECK.equal("of its first step", longDerivation().derivationSize(13), 3);
    }

    static void promise20DerivationSizeCountsAClauseOnce() {
        ResolutionProver x =
            Feed.loaded("logic 3;clause a b;clause -a b;clause -b c;clause -b -c;");
        x.resolve(0, 1);
        x.resolve(4, 2);
        x.resolve(4, 3);
        CHECK.equal("resolve", x.resolve(5, 6), 7);
        CHECK.equal("derivationSize", x.derivationSize(7), 8);
        CHECK.equal("derivationSize", x.derivationSize(6), 5);
    }

    static void promise21PremisesOfTheNumbersOfAllClauses() {
        EDGES.clauseNumbers("premises", ResolutionProver::premises);
        ResolutionProver x = Provers.withClauses(60);
        for (int clause = 0; clause < 60; clause++) {
            CHECK.equal("premises(" + clause + ")", x.premises(clause), 1L << clause);
        }
    }

    static void promise21PremisesOnBothSidesOfAnInt() {
        ResolutionProver x = Provers.withClauses(31);
        x.addClause(2048, 1024);
        x.addClause(512, 2048);
        CHECK.equal("resolve", x.resolve(31, 32), 33);
        CHECK.equal("premises(33)", x.premises(33), 3L << 31);
    }

    static void promise21PremisesWithTheFirstAndTheLastBit() {
        ResolutionProver x = Provers.withClauses(58);
        x.addClause(2048, 1);
        CHECK.equal("resolve", x.resolve(0, 58), 59);
        CHECK.equal("premises(59)", x.premises(59), 1L | 1L << 58);
        CHECK.equal("premises(0)", x.premises(0), 1);
        ResolutionProver y = longDerivation();
        CHECK.equal("premises(23)", y.premises(23), (1L << 11) - 1 | 1L << 12);
    }

    // ---- counts

    static void promise22EmptyClauseAtTheEdges() {
        ResolutionProver x = new ResolutionProver();
        CHECK.equal("without clauses", x.emptyClause(), NONE);
        x.addClause(0, 0);
        CHECK.equal("alone", x.emptyClause(), 0);
        x.dropClause(0);
        CHECK.equal("dropped", x.emptyClause(), NONE);
        ResolutionProver y = Provers.withClauses(59);
        CHECK.equal("not there", y.emptyClause(), NONE);
        y.addClause(0, 0);
        CHECK.equal("the last one", y.emptyClause(), 59);
        ResolutionProver z = Feed.loaded("logic 1;clause a;clause -a;");
        z.resolve(0, 1);
        CHECK.equal("a resolvent", z.emptyClause(), 2);
    }

    static void promise23ClausesOfSizeOfAnyInt() {
        ResolutionProver x = Provers.withVariables(12);
        for (int size : Provers.outside(0, 12)) {
            CHECK.equal("without clauses", x.clausesOfSize(size), 0);
        }
        for (int size = 0; size <= 12; size++) {
            x.addClause((1 << size) - 1, 0);
        }
        for (int size = 0; size <= 12; size++) {
            CHECK.equal("clausesOfSize(" + size + ")", x.clausesOfSize(size), 1);
        }
        for (int size : Provers.outside(0, 12)) {
            CHECK.equal("clausesOfSize(" + size + ")", x.clausesOfSize(size), 0);
        }
    }

    static void promise23ClausesOfSizeUpTo60() {
        ResolutionProver x = Provers.ofRing(48);
        CHECK.equal("clausesOfSize(2)", x.clausesOfSize(2), 60);
        CHECK.equal("clausesOfSize(1)", x.clausesOfSize(1), 0);
        CHECK.equal("clausesOfSize(3)", x.clausesOfSize(3), 0);
        CHECK.equal("clausesOfSize(-2)", x.clausesOfSize(-2), 0);
    }

    static void promise24HornClausesHaveAtMostOnePositiveLiteral() {
        ResolutionProver x = Provers.withVariables(12);
        CHECK.equal("without clauses", x.hornClauses(), 0);
        x.addClause(3, 0);
        CHECK.equal("two positive literals", x.hornClauses(), 0);
        x.addClause(2049, 2046);
        CHECK.equal("two positive literals", x.hornClauses(), 0);
        x.addClause(2048, 2047);
        CHECK.equal("one positive literal", x.hornClauses(), 1);
        x.addClause(0, 4095);
        CHECK.equal("none", x.hornClauses(), 2);
        x.addClause(0, 0);
        CHECK.equal("the empty clause", x.hornClauses(), 3);
        CHECK.equal("60 of them", Provers.ofRing(48).hornClauses(), 60);
    }

    static void promise25OccurrencesOfTheNumbersOfAllVariables() {
        EDGES.variableNumbers("occurrences", (x, variable) -> x.occurrences(variable, true));
        EDGES.variableNumbers("occurrences", (x, variable) -> x.occurrences(variable, false));
    }

    static void promise25OccurrencesFrom0To60() {
        ResolutionProver x = Provers.withVariables(12);
        for (int k = 0; k < 60; k++) {
            x.addClause(1 | k << 1, 2048);
        }
        CHECK.equal("occurrences(0, true)", x.occurrences(0, true), 60);
        CHECK.equal("occurrences(0, false)", x.occurrences(0, false), 0);
        CHECK.equal("occurrences(11, true)", x.occurrences(11, true), 0);
        CHECK.equal("occurrences(11, false)", x.occurrences(11, false), 60);
        CHECK.equal("occurrences(10, true)", x.occurrences(10, true), 0);
        CHECK.equal("occurrences(10, false)", x.occurrences(10, false), 0);
        x.negateVariable(0);
        CHECK.equal("occurrences(0, false)", x.occurrences(0, false), 60);
        CHECK.equal("occurrences(1, true)", x.occurrences(1, true), 30);
        CHECK.equal("occurrences(1, false)", x.occurrences(1, false), 0);
    }

    static void promise26MostFrequentVariableIsTheLowestOfSeveral() {
        for (int variables : new int[] {1, 12}) {
            ResolutionProver x = Provers.withVariables(variables);
            CHECK.equal("without clauses", x.mostFrequentVariable(), 0);
            x.addClause(0, 0);
            CHECK.equal("with the empty clause", x.mostFrequentVariable(), 0);
            x.addClause((1 << variables) - 1, 0);
            CHECK.equal("all once", x.mostFrequentVariable(), 0);
            x.addClause(0, 1 << variables - 1);
            CHECK.equal("the last one", x.mostFrequentVariable(), variables - 1);
        }
        ResolutionProver x = Provers.withVariables(12);
        x.addClause(2048, 1024);
        CHECK.equal("of the last two", x.mostFrequentVariable(), 10);
    }

    static void promise26MostFrequentVariableCountsBothSigns() {
        ResolutionProver x = Feed.loaded("logic 3;clause b c;clause b;clause -c;");
        CHECK.equal("as often", x.mostFrequentVariable(), 1);
        x.addClause(1, 4);
        CHECK.equal("once more", x.mostFrequentVariable(), 2);
    }

    static void promise27PurePositiveOfNoneAndOfAll() {
        ResolutionProver x = Provers.withVariables(12);
        CHECK.equal("without clauses", x.purePositive(), 0);
        x.addClause(0, 0);
        CHECK.equal("with the empty clause", x.purePositive(), 0);
        x.addClause(4095, 0);
        CHECK.equal("all", x.purePositive(), 4095);
        x.addClause(0, 2049);
        CHECK.equal("all but the first and the last", x.purePositive(), 2046);
        x.addClause(0, 4095);
        CHECK.equal("none", x.purePositive(), 0);
        x.dropClause(3);
        CHECK.equal("behind the last clause", x.purePositive(), 2046);
        ResolutionProver y = Feed.loaded("logic 12;clause a -l;");
        CHECK.equal("of one clause", y.purePositive(), 1);
        y.dropClause(0);
        CHECK.equal("of no clause any more", y.purePositive(), 0);
        CHECK.equal("of 60 clauses", Provers.withClauses(60).purePositive(), 63);
    }

    static void promise28PureNegativeOfNoneAndOfAll() {
        ResolutionProver x = Provers.withVariables(12);
        CHECK.equal("without clauses", x.pureNegative(), 0);
        x.addClause(0, 0);
        CHECK.equal("with the empty clause", x.pureNegative(), 0);
        x.addClause(0, 4095);
        CHECK.equal("all", x.pureNegative(), 4095);
        x.addClause(2049, 0);
        CHECK.equal("all but the first and the last", x.pureNegative(), 2046);
        x.addClause(4095, 0);
        CHECK.equal("none", x.pureNegative(), 0);
        x.dropClause(3);
        CHECK.equal("behind the last clause", x.pureNegative(), 2046);
        ResolutionProver y = Feed.loaded("logic 12;clause a -l;");
        CHECK.equal("of one clause", y.pureNegative(), 2048);
        y.dropClause(0);
        CHECK.equal("of no clause any more", y.pureNegative(), 0);
        CHECK.equal("of 60 clauses", Provers.withClauses(60).pureNegative(), 0);
    }
}
