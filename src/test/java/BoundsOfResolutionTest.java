/** The edges that promises 29 to 39 name: resolution, subsumption, and the next step. */
public final class BoundsOfResolutionTest {
    private static final Check CHECK = new Check("BoundsOfResolutionTest");
    private static final Edges EDGES = new Edges(CHECK);
    private static final int NONE = ResolutionProver.NONE;

    public static void main(String[] args) {
        CHECK.runPromises(BoundsOfResolutionTest.class);
        CHECK.end();
    }

    /** Both numbers have to be those of clauses; also if they are the same. */
    private static void pairsOfClauses(String what, Edges.CallOfTwo call) {
        EDGES.clauseNumbers(what + ", first", (x, clause) -> call.of(x, clause, 0));
        EDGES.clauseNumbers(what + ", second", (x, clause) -> call.of(x, 0, clause));
        EDGES.clauseNumbers(what + ", both", (x, clause) -> call.of(x, clause, clause));
    }

    /** Clauses of a and one other literal, and of -a and one other: each pair is resolvable. */
    private static ResolutionProver manyPairs(int each) {
        ResolutionProver x = Provers.withVariables(12);
        for (int k = 0; k < each; k++) {
            x.addClause(1 | k << 1, 0);
            x.addClause(k << 1, 1);
        }
        return x;
    }

    // ---- clashes and resolvents

    static void promise29ClashesOfTheNumbersOfAllClauses() {
        pairsOfClauses("clashes", ResolutionProver::clashes);
    }

    static void promise29ClashesFrom0To12() {
        ResolutionProver x = Provers.withVariables(12);
        x.addClause(0x555, 0xaaa);
        for (int count = 0; count <= 12; count++) {
            int part = (1 << count) - 1;
            int other = x.addClause(0xaaa & part, 0x555 & part);
            CHECK.equal("clashes", x.clashes(0, other), count);
            CHECK.equal("clashes", x.clashes(other, 0), count);
            CHECK.equal("clashes of a clause with itself", x.clashes(other, other), 0);
            x.dropClause(other);
        }
        x.addClause(4095, 0);
        CHECK.equal("of one sign alone", x.clashes(0, 1), 6);
    }

    static void promise30AreResolvableOfTheNumbersOfAllClauses() {
        pairsOfClauses("areResolvable", ResolutionProver::areResolvable);
    }

    static void promise30AreResolvableWithExactlyOneClash() {
        ResolutionProver x = Feed.loaded("logic 12;clause a -b l;clause a c;clause -a l;"
            + "clause -a b l;clause -a b -l;clause b;clause -l;clause;");
        boolean[] due = {false, false, true, false, false, true, true, false};
        for (int other = 0; other < due.length; other++) {
            CHECK.equal("areResolvable(0, " + other + ")", x.areResolvable(0, other) ? 1 : 0,
                due[other] ? 1 : 0);
            CHECK.equal("areResolvable(" + other + ", 0)", x.areResolvable(other, 0) ? 1 : 0,
                due[other] ? 1 : 0);
        }
    }

    static void promise31ResolventPositiveOfTheNumbersOfAllClauses() {
        pairsOfClauses("resolventPositive", ResolutionProver::resolventPositive);
    }

    static void promise31ResolventPositiveIsNoneWithoutExactlyOneClash() {
        ResolutionProver x =
            Feed.loaded("logic 12;clause a -b l;clause a c;clause -a b;clause -a;");
        CHECK.equal("of no clash", x.resolventPositive(0, 1), NONE);
        CHECK.equal("of itself", x.resolventPositive(0, 0), NONE);
        CHECK.equal("of two clashes", x.resolventPositive(0, 2), NONE);
        CHECK.equal("of one clash", x.resolventPositive(0, 3), 2048);
        CHECK.equal("of one clash", x.resolventPositive(3, 0), 2048);
        CHECK.equal("nothing is added", x.clauseCount(), 4);
    }

    static void promise31ResolventPositiveOfTheSmallestAndTheGreatest() {
        ResolutionProver x = Provers.withVariables(12);
        x.addClause(1, 0);
        x.addClause(0, 1);
        x.addClause(4094, 1);
        CHECK.equal("of the empty resolvent", x.resolventPositive(0, 1), 0);
        CHECK.equal("of the empty resolvent", x.resolventPositive(1, 0), 0);
        CHECK.equal("of all other literals", x.resolventPositive(0, 2), 4094);
    }

    static void promise32ResolventNegativeOfTheNumbersOfAllClauses() {
        pairsOfClauses("resolventNegative", ResolutionProver::resolventNegative);
    }

    static void promise32ResolventNegativeIsNoneWithoutExactlyOneClash() {
        ResolutionProver x =
            Feed.loaded("logic 12;clause a -b l;clause a c;clause -a b;clause -a;");
        CHECK.equal("of no clash", x.resolventNegative(0, 1), NONE);
        CHECK.equal("of itself", x.resolventNegative(0, 0), NONE);
        CHECK.equal("of two clashes", x.resolventNegative(0, 2), NONE);
        CHECK.equal("of one clash", x.resolventNegative(0, 3), 2);
        CHECK.equal("of one clash", x.resolventNegative(3, 0), 2);
        CHECK.equal("nothing is added", x.clauseCount(), 4);
    }

    static void promise32ResolventNegativeOfTheSmallestAndTheGreatest() {
        ResolutionProver x = Provers.withVariables(12);
        x.addClause(2048, 0);
        x.addClause(0, 2048);
        x.addClause(0, 4095);
        CHECK.equal("of the empty resolvent", x.resolventNegative(0, 1), 0);
        CHECK.equal("of the empty resolvent", x.resolventNegative(1, 0), 0);
        CHECK.equal("of all other literals", x.resolventNegative(0, 2), 2047);
    }

    static void promise33ResolvablePairsFrom0To900() {
        CHECK.equal("without clauses", new ResolutionProver().resolvablePairs(), 0);
        CHECK.equal("of one clause", Provers.withClauses(1).resolvablePairs(), 0);
        CHECK.equal("of 60 that do not clash", Provers.withClauses(60).resolvablePairs(), 0);
        CHECK.equal("of two clauses", manyPairs(1).resolvablePairs(), 1);
        CHECK.equal("of 60 clauses", manyPairs(30).resolvablePairs(), 900);
        ResolutionProver x = Feed.loaded("logic 2;clause a b;clause -a -b;");
        CHECK.equal("of two clashes", x.resolvablePairs(), 0);
    }

    // ---- subsumption

    static void promise34SubsumesOfTheNumbersOfAllClauses() {
        pairsOfClauses("subsumes", ResolutionProver::subsumes);
    }

    static void promise34SubsumesItselfAndWhatHasAllItsLiterals() {
        ResolutionProver x = Feed.loaded("logic 12;clause a -l;clause a b -l;clause a l;clause a;"
            + "clause -l;clause;clause -a -l;");
        boolean[] due = {true, true, false, false, false, false, false};
        boolean[] dueOfOther = {true, false, false, true, true, true, false};
        for (int other = 0; other < due.length; other++) {
            CHECK.equal("subsumes(0, " + other + ")", x.subsumes(0, other) ? 1 : 0,
                due[other] ? 1 : 0);
            CHECK.equal("subsumes(" + other + ", 0)", x.subsumes(other, 0) ? 1 : 0,
                dueOfOther[other] ? 1 : 0);
            CHECK.yes("subsumes itself", x.subsumes(other, other));
            CHECK.yes("the empty clause subsumes all", x.subsumes(5, other));
        }
    }

    static void promise35SubsumerOfTheNumbersOfAllClauses() {
        EDGES.clauseNumbers("subsumerOf", ResolutionProver::subsumerOf);
    }

    static void promise35SubsumerOfIsTheLowestOtherOne() {
        ResolutionProver x = new ResolutionProver();
        x.addClause(1, 0);
        CHECK.equal("of the only clause", x.subsumerOf(0), NONE);
        x.addClause(3, 0);
        x.addClause(2, 0);
        CHECK.equal("subsumerOf(0)", x.subsumerOf(0), NONE);
        CHECK.equal("the lowest of two", x.subsumerOf(1), 0);
        CHECK.equal("subsumerOf(2)", x.subsumerOf(2), NONE);
        x.dropClause(0);
        CHECK.equal("one behind it", x.subsumerOf(0), 1);
        ResolutionProver y = Provers.withClauses(59);
        y.addClause(0, 0);
        CHECK.equal("the last of 60", y.subsumerOf(0), 59);
        CHECK.equal("of the empty clause", y.subsumerOf(59), NONE);
    }

    static void promise36SubsumedClausesFrom0To59() {
        CHECK.equal("without clauses", new ResolutionProver().subsumedClauses(), 0);
        CHECK.equal("of one clause", Provers.withClauses(1).subsumedClauses(), 0);
        CHECK.equal("of a ring", Provers.ofRing(48).subsumedClauses(), 0);
        ResolutionProver x = Provers.ofRing(47);
        x.addClause(0, 0);
        CHECK.equal("all but the empty clause", x.subsumedClauses(), 59);
        ResolutionProver y = Provers.ofRing(1);
        y.addClause(2, 0);
        CHECK.equal("one of 14", y.subsumedClauses(), 1);
        y.addClause(0, 1);
        CHECK.equal("a clause with two subsumers counts once", y.subsumedClauses(), 2);
    }

    // ---- the next step

    private static void next(String what, ResolutionProver x, int first, int second) {
        CHECK.equal("nextFirst " + what, x.nextFirst(), first);
        CHECK.equal("nextSecond " + what, x.nextSecond(), second);
    }

    static void promise37NextFirstIsNoneWithoutANextStep() {
        ResolutionProver x = new ResolutionProver();
        next("without clauses", x, NONE, NONE);
        x.addClause(1, 0);
        next("of one clause", x, NONE, NONE);
        x.addClause(0, 3);
        next("of two clauses", x, 0, 1);
        x.addClause(0, 2);
        next("of a resolvent that exists", x, NONE, NONE);
        x.dropClause(2);
        x.addClause(0, 0);
        next("with an empty clause", x, NONE, NONE);
        next("of two clashes", Feed.loaded("logic 2;clause a b;clause -a -b;"), NONE, NONE);
        ResolutionProver y = Feed.loaded("logic 2;clause a;clause -a b;");
        y.dropClause(1);
        next("of a dropped clause", y, NONE, NONE);
        y.undo();
        next("of a clause that is back", y, 0, 1);
    }

    /** Each of the two methods looks for the pair anew. */
    static void promise38NextSecondIsAskedAlone() {
        ResolutionProver x = Feed.loaded("logic 4;clause a;clause b;clause c;clause -c d;");
        CHECK.equal("nextSecond", x.nextSecond(), 3);
        x.addClause(0, 1);
        CHECK.equal("nextSecond", x.nextSecond(), 3);
        x.saturate(1);
        CHECK.equal("nextSecond", x.nextSecond(), 4);
        x.undo();
        CHECK.equal("nextSecond", x.nextSecond(), 3);
        x.dropClause(3);
        CHECK.equal("nextSecond", x.nextSecond(), 3);
        x.dropClause(3);
        CHECK.equal("nextSecond", x.nextSecond(), NONE);
        x.undo();
        CHECK.equal("nextFirst", x.nextFirst(), 0);
    }

    static void promise37NextFirstWith59And60Clauses() {
        ResolutionProver x = Provers.ofRing(47);
        CHECK.yes("nextFirst with 59 clauses", x.nextFirst() != NONE);
        CHECK.yes("nextSecond with 59 clauses", x.nextSecond() != NONE);
        x.saturate(1);
        next("with 60 clauses", x, NONE, NONE);
        x.undo();
        x.addClause(3, 0);
        next("with 60 clauses", x, NONE, NONE);
        ResolutionProver y = Provers.withClauses(57);
        y.addClause(2048, 1024);
        y.addClause(512, 2048);
        next("of the last two of 59", y, 57, 58);
    }

    static void promise38NextSecondIsTheSmallestFirst() {
        ResolutionProver x = Feed.loaded("logic 6;clause a;clause b;clause c -d;clause d e;"
            + "clause -b f;clause -a f;");
        next("is that of the smallest j", x, 2, 3);
        x.dropClause(2);
        next("is that of the smallest j", x, 1, 3);
        x.dropClause(3);
        next("is that of the smallest j", x, 0, 3);
        ResolutionProver y = Feed.loaded("logic 6;clause a;clause b;clause -a -b c;");
        next("is that of the smallest i", y, 0, 2);
    }

    static void promise38NextSecondPassesSubsumedResolvents() {
        ResolutionProver x = Feed.loaded("logic 4;clause a b;clause -a b;clause b;clause -b c;");
        next("behind a resolvent that exists", x, 0, 3);
        x.addClause(4, 0);
        next("with resolvents that a clause subsumes", x, NONE, NONE);
        ResolutionProver y = Feed.loaded("logic 4;clause a b;clause -a b c;clause b d;");
        next("with a resolvent that no clause subsumes", y, 0, 1);
        y.addClause(2, 0);
        next("with a resolvent that a later clause subsumes", y, NONE, NONE);
    }

    static void promise39StepsToEmptyAtTheEdges() {
        ResolutionProver x = new ResolutionProver();
        CHECK.equal("without clauses", x.stepsToEmpty(), NONE);
        x.addClause(1, 0);
        CHECK.equal("of one clause", x.stepsToEmpty(), NONE);
        x.addClause(0, 1);
        CHECK.equal("of the last step", x.stepsToEmpty(), 1);
        x.saturate(99);
        CHECK.equal("of an empty clause", x.stepsToEmpty(), 0);
        x.dropClause(2);
        CHECK.equal("of a dropped one", x.stepsToEmpty(), 1);
        ResolutionProver y = new ResolutionProver();
        y.addClause(0, 0);
        CHECK.equal("of the empty clause alone", y.stepsToEmpty(), 0);
    }

    static void promise39StepsToEmptyWith59And60Clauses() {
        ResolutionProver x = Provers.withVariables(12);
        x.addClause(2048, 0);
        x.addClause(0, 2048);
        for (int mask = 1; mask <= 57; mask++) {
            x.addClause(mask, 0);
        }
        CHECK.equal("the empty clause is the 60th", x.stepsToEmpty(), 1);
        x.addClause(58, 0);
        CHECK.equal("there is no room for it", x.stepsToEmpty(), NONE);
        x.undo();
        x.addClause(0, 0);
        CHECK.equal("it is there as the 60th", x.stepsToEmpty(), 0);
    }

    /** The clauses that are added have no part in the steps, but take their places. */
    static void promise39StepsToEmptyUpToTheLastPlace() {
        String text = "logic 12;clause a b;clause -a b;clause a -b;clause -a -b;";
        ResolutionProver x = Feed.loaded(text);
        int steps = x.stepsToEmpty();
        CHECK.equal("stepsToEmpty", steps, 5);
        for (int mask = 4; x.clauseCount() < 60 - steps; mask += 4) {
            x.addClause(mask, 0);
        }
        CHECK.equal("with just enough room", x.stepsToEmpty(), steps);
        x.addClause(2048, 0);
        CHECK.equal("with one place too few", x.stepsToEmpty(), NONE);
        CHECK.equal("the clauses stay", x.clauseCount(), 56);
    }

    /** Eight clauses of which the 52nd step makes the empty clause, as the 60th of all. */
    static void promise39StepsToEmptyOf52Steps() {
        String text = "logic 6;clause -a d;clause c d e;clause -b -c e;clause a -e;"
            + "clause -b -c -e;clause b -c;clause c -d;clause -a b c e;";
        CHECK.equal("stepsToEmpty", Feed.loaded(text).stepsToEmpty(), 52);
        ResolutionProver x = Feed.loaded(text);
        for (int left = 51; left >= 0; left--) {
            x.saturate(1);
            CHECK.equal("stepsToEmpty", x.stepsToEmpty(), left);
        }
        CHECK.equal("emptyClause", x.emptyClause(), 59);
        ResolutionProver y = Feed.loaded(text);
        y.addClause(32, 0);
        CHECK.equal("with one clause more", y.stepsToEmpty(), NONE);
    }

    static void promise39StepsToEmptyIsNoneIfNoStepIsLeft() {
        CHECK.equal("of a ring", Provers.ofRing(1).stepsToEmpty(), NONE);
        CHECK.equal("of a ring with 60 clauses", Provers.ofRing(48).stepsToEmpty(), NONE);
        ResolutionProver x = Feed.loaded("logic 2;clause a b;clause -a b;");
        CHECK.equal("of two clauses", x.stepsToEmpty(), NONE);
        CHECK.equal("the clauses stay", x.clauseCount(), 2);
    }

    static void promise39StepsToEmptyChangesNothing() {
        CHECK.leavesAll("these calls", Provers::worked, x -> {
            x.stepsToEmpty();
            x.nextFirst();
            x.nextSecond();
            x.resolvablePairs();
            x.subsumedClauses();
        });
    }
}
