/** The edges that promises 40 to 53 name: models, assignments, and unit propagation. */
public final class BoundsOfModelsTest {
    private static final Check CHECK = new Check("BoundsOfModelsTest");
    private static final Edges EDGES = new Edges(CHECK);
    private static final int NONE = ResolutionProver.NONE;

    public static void main(String[] args) {
        CHECK.runPromises(BoundsOfModelsTest.class);
        CHECK.end();
    }

    /** A prover whose only model is this assignment. */
    private static ResolutionProver withModel(int variables, int model) {
        ResolutionProver x = Provers.withVariables(variables);
        for (int variable = 0; variable < variables; variable++) {
            int bit = 1 << variable;
            x.addClause(model & bit, bit & ~model);
        }
        return x;
    }

    private static ResolutionProver withoutModels(int variables) {
        ResolutionProver x = Provers.withVariables(variables);
        x.addClause(0, 0);
        return x;
    }

    private static int all(int variables) {
        return (1 << variables) - 1;
    }

    // ---- models

    static void promise40ModelCountFrom0To4096() {
        for (int variables = 1; variables <= 12; variables++) {
            ResolutionProver x = Provers.withVariables(variables);
            int assignments = 1 << variables;
            CHECK.equal("without clauses", x.modelCount(), assignments);
            x.addClause(all(variables), 0);
            CHECK.equal("all but the first", x.modelCount(), assignments - 1);
            x.addClause(0, all(variables));
            CHECK.equal("all but the first and the last", x.modelCount(), assignments - 2);
            CHECK.equal("without models", withoutModels(variables).modelCount(), 0);
            CHECK.equal("the first one", withModel(variables, 0).modelCount(), 1);
            CHECK.equal("the last one", withModel(variables, all(variables)).modelCount(), 1);
        }
    }

    static void promise41FirstModelAtTheEdges() {
        for (int variables : new int[] {1, 11, 12}) {
            int all = all(variables);
            CHECK.equal("of all", Provers.withVariables(variables).firstModel(), 0);
            CHECK.equal("of none", withoutModels(variables).firstModel(), NONE);
            CHECK.equal("of the first one", withModel(variables, 0).firstModel(), 0);
            CHECK.equal("of the last one", withModel(variables, all).firstModel(), all);
        }
    }

    static void promise42ModelAtOfAnyInt() {
        for (int variables : new int[] {1, 4, 12}) {
            ResolutionProver x = Provers.withVariables(variables);
            int all = all(variables);
            CHECK.equal("modelAt(0)", x.modelAt(0), 0);
            CHECK.equal("modelAt the last", x.modelAt(all), all);
            for (int index : Provers.outside(0, all)) {
                CHECK.equal("modelAt(" + index + ")", x.modelAt(index), NONE);
            }
            x.addClause(all, 0);
            CHECK.equal("modelAt(0)", x.modelAt(0), 1);
            CHECK.equal("modelAt the last", x.modelAt(all - 1), all);
            CHECK.equal("modelAt behind it", x.modelAt(all), NONE);
        }
    }

    static void promise42ModelAtOfNoModelAndOfOne() {
        ResolutionProver x = withoutModels(12);
        ResolutionProver y = withModel(12, 4095);
        CHECK.equal("modelAt(0)", x.modelAt(0), NONE);
        CHECK.equal("modelAt(0)", y.modelAt(0), 4095);
        for (int index : Provers.outside(0, 0)) {
            CHECK.equal("modelAt(" + index + ")", x.modelAt(index), NONE);
            CHECK.equal("modelAt(" + index + ")", y.modelAt(index), NONE);
        }
    }

    // ---- truth

    static void promise43IsTrueOfTheNumbersOfAllClauses() {
        EDGES.clauseNumbers("isTrue", (x, clause) -> x.isTrue(clause, 0));
    }

    static void promise43IsTrueOfVariableMasks() {
        EDGES.masks("isTrue", (x, mask) -> {
            if (x.clauseCount() == 0) {
                x.addClause(1, 0);
            }
            x.isTrue(0, mask);
        });
    }

    /** Both exceptions apply: the one that is listed first is thrown. */
    static void promise43IsTrueThrowsTheFirstExceptionThatApplies() {
        for (int clause : new int[] {Integer.MIN_VALUE, -1, 6, Integer.MAX_VALUE}) {
            for (int mask : new int[] {Integer.MIN_VALUE, -1, 16, Integer.MAX_VALUE}) {
                CHECK.refused("isTrue(" + clause + ", " + mask + ")",
                    IndexOutOfBoundsException.class, Provers::worked, x -> x.isTrue(clause, mask));
            }
        }
        CHECK.noIndex("without clauses", () -> new ResolutionProver().isTrue(0, -1));
    }

    static void promise43IsTrueWithTheFirstAndTheLastVariable() {
        ResolutionProver x = Feed.loaded("logic 12;clause a;clause l;clause -a;clause -l;clause;");
        CHECK.yes("a", x.isTrue(0, 1));
        CHECK.no("a", x.isTrue(0, 4094));
        CHECK.yes("l", x.isTrue(1, 2048));
        CHECK.no("l", x.isTrue(1, 2047));
        CHECK.yes("-a", x.isTrue(2, 4094));
        CHECK.no("-a", x.isTrue(2, 1));
        CHECK.yes("-l", x.isTrue(3, 2047));
        CHECK.no("-l", x.isTrue(3, 2048));
        CHECK.no("the empty clause", x.isTrue(4, 0));
        CHECK.no("the empty clause", x.isTrue(4, 4095));
    }

    static void promise44FalseClausesOfVariableMasks() {
        EDGES.masks("falseClauses", ResolutionProver::falseClauses);
    }

    static void promise44FalseClausesFrom0To60() {
        CHECK.equal("without clauses", new ResolutionProver().falseClauses(0), 0);
        CHECK.equal("without clauses", new ResolutionProver().falseClauses(15), 0);
        ResolutionProver x = Provers.withClauses(60);
        CHECK.equal("all of 60", x.falseClauses(0), 60);
        CHECK.equal("none of 60", x.falseClauses(63), 0);
        CHECK.equal("the odd ones", x.falseClauses(62), 1);
        CHECK.equal("of variables that do not occur", x.falseClauses(4032), 60);
        x.undo();
        x.addClause(0, 0);
        CHECK.equal("the empty clause", x.falseClauses(4095), 1);
    }

    static void promise45BestFlipOfVariableMasks() {
        EDGES.masks("bestFlip", ResolutionProver::bestFlip);
    }

    static void promise45BestFlipIsTheLowestOfSeveral() {
        for (int variables : new int[] {1, 2, 12}) {
            int all = all(variables);
            ResolutionProver x = Provers.withVariables(variables);
            CHECK.equal("without clauses", x.bestFlip(0), 0);
            CHECK.equal("without clauses", x.bestFlip(all), 0);
            x.addClause(all, 0);
            CHECK.equal("all help", x.bestFlip(0), 0);
            x.dropClause(0);
            x.addClause(0, 0);
            CHECK.equal("none helps", x.bestFlip(all), 0);
        }
        ResolutionProver x = withModel(12, 4095);
        CHECK.equal("the last one", x.bestFlip(2047), 11);
        CHECK.equal("the last but one", x.bestFlip(1023), 10);
        CHECK.equal("each one does harm", x.bestFlip(4095), 0);
        x.dropClause(0);
        CHECK.equal("the lowest does none", x.bestFlip(4095), 0);
        CHECK.equal("each other one does harm", withModel(12, 0).bestFlip(0), 0);
    }

    static void promise45BestFlipTakesOneThatDoesNoHarm() {
        ResolutionProver x = withModel(12, 4095);
        x.dropClause(11);
        CHECK.equal("the last one", x.bestFlip(4095), 11);
        ResolutionProver y = Provers.withClauses(60);
        CHECK.equal("with 60 false clauses", y.bestFlip(0), 0);
        y.negateVariable(0);
        CHECK.equal("with 30 false clauses", y.bestFlip(0), 1);
    }

    static void promise46AlwaysTrueAtTheEdges() {
        for (int variables : new int[] {1, 2, 11, 12}) {
            int all = all(variables);
            CHECK.equal("without models", withoutModels(variables).alwaysTrue(), all);
            CHECK.equal("without clauses", Provers.withVariables(variables).alwaysTrue(), 0);
            CHECK.equal("of the first model", withModel(variables, 0).alwaysTrue(), 0);
            CHECK.equal("of the last model", withModel(variables, all).alwaysTrue(), all);
            CHECK.equal("of one model", withModel(variables, 1).alwaysTrue(), 1);
        }
    }

    static void promise47AlwaysFalseAtTheEdges() {
        for (int variables : new int[] {1, 2, 11, 12}) {
            int all = all(variables);
            CHECK.equal("without models", withoutModels(variables).alwaysFalse(), all);
            CHECK.equal("without clauses", Provers.withVariables(variables).alwaysFalse(), 0);
            CHECK.equal("of the first model", withModel(variables, 0).alwaysFalse(), all);
            CHECK.equal("of the last model", withModel(variables, all).alwaysFalse(), 0);
            CHECK.equal("of one model", withModel(variables, 1).alwaysFalse(), all & ~1);
        }
    }

    // ---- implied clauses

    static void promise48IsImpliedRefusesWhatIsNoClause() {
        EDGES.literals("isImplied", ResolutionProver::isImplied);
    }

    static void promise48IsImpliedAtTheEdges() {
        for (int variables : new int[] {1, 12}) {
            int all = all(variables);
            ResolutionProver none = withoutModels(variables);
            CHECK.yes("the empty clause without models", none.isImplied(0, 0));
            CHECK.yes("any clause without models", none.isImplied(all, 0));
            ResolutionProver any = Provers.withVariables(variables);
            CHECK.no("the empty clause", any.isImplied(0, 0));
            CHECK.no("without clauses", any.isImplied(all, 0));
            CHECK.no("without clauses", any.isImplied(0, all));
            any.addClause(all, 0);
            CHECK.yes("the clause itself", any.isImplied(all, 0));
            CHECK.no("the empty clause", any.isImplied(0, 0));
            ResolutionProver last = withModel(variables, all);
            CHECK.yes("true in the last model", last.isImplied(1 << variables - 1, 0));
            CHECK.no("false in the last model", last.isImplied(0, 1 << variables - 1));
            CHECK.no("false in the last model", last.isImplied(0, all));
            ResolutionProver first = withModel(variables, 0);
            CHECK.yes("true in the first model", first.isImplied(0, 1));
            CHECK.no("false in the first model", first.isImplied(all, 0));
        }
    }

    static void promise49IsRedundantOfTheNumbersOfAllClauses() {
        EDGES.clauseNumbers("isRedundant", ResolutionProver::isRedundant);
    }

    static void promise49IsRedundantAtTheEdges() {
        ResolutionProver x = withoutModels(12);
        CHECK.no("the empty clause alone", x.isRedundant(0));
        x.addClause(4095, 0);
        CHECK.yes("any clause with it", x.isRedundant(1));
        CHECK.no("the empty clause with a model of the others", x.isRedundant(0));
        ResolutionProver y = Feed.loaded("logic 1;clause a;clause -a;clause;");
        CHECK.yes("the empty clause without a model of the others", y.isRedundant(2));
        CHECK.yes("with the empty clause", y.isRedundant(0));
        y.dropClause(2);
        CHECK.no("one of two that make it", y.isRedundant(0));
        CHECK.no("one of two that make it", y.isRedundant(1));
        ResolutionProver z = Provers.withClauses(60);
        CHECK.no("the first of 60", z.isRedundant(0));
        CHECK.no("the second of 60", z.isRedundant(1));
        CHECK.yes("the third of 60", z.isRedundant(2));
        CHECK.yes("the last of 60", z.isRedundant(59));
        CHECK.no("a clause alone", Provers.withClauses(1).isRedundant(0));
    }

    static void promise50ModelShareFrom0To1() {
        for (int variables : new int[] {1, 2, 11, 12}) {
            double assignments = 1 << variables;
            ResolutionProver x = Provers.withVariables(variables);
            CHECK.share("without clauses", x.modelShare(), 1.0);
            x.addClause(all(variables), 0);
            CHECK.share("all but one", x.modelShare(), (assignments - 1) / assignments);
            CHECK.share("without models", withoutModels(variables).modelShare(), 0.0);
            CHECK.share("one model", withModel(variables, 1).modelShare(), 1.0 / assignments);
        }
    }

    // ---- unit propagation

    private static void propagates(String text, int isTrue, int isFalse, boolean isConflict) {
        ResolutionProver x = Feed.loaded(text);
        CHECK.equal("fixedTrue of " + text, x.fixedTrue(), isTrue);
        CHECK.equal("fixedFalse of " + text, x.fixedFalse(), isFalse);
        CHECK.equal("hasConflict of " + text, x.hasConflict() ? 1 : 0, isConflict ? 1 : 0);
        Feed.play(x, "invert;");
        CHECK.equal("fixedTrue of the inverted " + text, x.fixedTrue(), isFalse);
        CHECK.equal("fixedFalse of the inverted " + text, x.fixedFalse(), isTrue);
        CHECK.equal("hasConflict of the inverted " + text, x.hasConflict() ? 1 : 0,
            isConflict ? 1 : 0);
    }

    static void promise51FixedTrueOfNoneAndOfAll() {
        for (int variables : new int[] {1, 2, 11, 12}) {
            int all = all(variables);
            CHECK.equal("without clauses", Provers.withVariables(variables).fixedTrue(), 0);
            CHECK.equal("with the empty clause", withoutModels(variables).fixedTrue(), 0);
            CHECK.equal("of the first model", withModel(variables, 0).fixedTrue(), 0);
            CHECK.equal("of the last model", withModel(variables, all).fixedTrue(), all);
        }
        CHECK.equal("of a ring", Provers.ofRing(48).fixedTrue(), 0);
    }

    /** The clause that is found in each round stands before the one of the round before. */
    static void promise51FixedTrueGoesOnUntilNothingNewIsFound() {
        String ring = Provers.RING.substring("logic 12;".length());
        propagates("logic 12;" + ring + "clause a;", 4095, 0, false);
        propagates("logic 12;clause a;" + ring, 4095, 0, false);
        propagates("logic 12;" + ring + "clause -l;", 0, 4095, false);
        propagates("logic 12;clause -k l;clause -j k;clause -i j;clause -h i;clause -g h;"
            + "clause -f g;clause -e f;clause -d e;clause -c d;clause -b c;clause -a b;clause a;",
            4095, 0, false);
        propagates("logic 12;clause a b c d e f g h i j k l;clause -a;clause -b;clause -c;"
            + "clause -d;clause -e;clause -f;clause -g;clause -h;clause -i;clause -j;clause -k;",
            2048, 2047, false);
    }

    static void promise51FixedTrueNeedsAllOtherNegationsFixed() {
        propagates("logic 3;clause a b c;clause -a;", 0, 1, false);
        propagates("logic 3;clause a b c;clause -a;clause -b;", 4, 3, false);
        propagates("logic 3;clause a b c;clause a;clause -b;", 1, 2, false);
        propagates("logic 1;clause a;", 1, 0, false);
    }

    static void promise52FixedFalseOfNoneAndOfAll() {
        for (int variables : new int[] {1, 2, 11, 12}) {
            int all = all(variables);
            CHECK.equal("without clauses", Provers.withVariables(variables).fixedFalse(), 0);
            CHECK.equal("with the empty clause", withoutModels(variables).fixedFalse(), 0);
            CHECK.equal("of the first model", withModel(variables, 0).fixedFalse(), all);
            CHECK.equal("of the last model", withModel(variables, all).fixedFalse(), 0);
        }
        CHECK.equal("of a ring", Provers.ofRing(48).fixedFalse(), 0);
    }

    /** The only literal of a clause is fixed even if its negation is; another one is not. */
    static void promise52FixedFalseInTheOrderOfTheClauses() {
        propagates("logic 1;clause a;clause -a;", 1, 1, true);
        propagates("logic 2;clause a;clause -a -b;clause b;", 3, 2, true);
        propagates("logic 2;clause a;clause b;clause -a -b;", 3, 0, true);
        propagates("logic 2;clause -a -b;clause a;clause b;", 3, 0, true);
        propagates("logic 2;clause b;clause -a -b;clause a;", 3, 1, true);
    }

    static void promise53HasConflictAtTheEdges() {
        for (int variables : new int[] {1, 12}) {
            CHECK.no("without clauses", Provers.withVariables(variables).hasConflict());
            CHECK.yes("with the empty clause", withoutModels(variables).hasConflict());
            ResolutionProver x = withModel(variables, 0);
            CHECK.no("with one model", x.hasConflict());
            x.addClause(1 << variables - 1, 0);
            CHECK.yes("with a variable and its negation", x.hasConflict());
            x.undo();
            CHECK.no("with one model", x.hasConflict());
        }
        propagates("logic 2;clause a b;clause a -b;clause -a b;clause -a -b;", 0, 0, false);
        propagates("logic 2;clause a b;clause -a b;clause -b;", 1, 2, true);
        propagates("logic 3;clause a b c;clause -a;clause -b;clause -c;", 0, 7, true);
        propagates("logic 3;clause -a;clause -b;clause a b c;clause -c;", 4, 7, true);
        propagates("logic 3;clause -a;clause -b;clause -c;clause a b c;", 0, 7, true);
    }

    static void promise53HasConflictOfTheLastOf60Clauses() {
        ResolutionProver x = Provers.ofRing(46);
        x.addClause(1, 0);
        CHECK.no("with 59 clauses", x.hasConflict());
        x.addClause(0, 2048);
        CHECK.equal("clauseCount", x.clauseCount(), 60);
        CHECK.yes("with 60 clauses", x.hasConflict());
        x.undo();
        x.addClause(0, 0);
        CHECK.yes("with the empty clause as the 60th", x.hasConflict());
    }

    static void promise53HasConflictChangesNothing() {
        CHECK.leavesAll("these calls", Provers::worked, x -> {
            x.hasConflict();
            x.fixedTrue();
            x.fixedFalse();
            x.modelCount();
            x.alwaysTrue();
            x.alwaysFalse();
            x.bestFlip(15);
            x.isRedundant(0);
            x.isImplied(3, 12);
        });
    }
}
