import java.util.function.Consumer;
import java.util.function.Supplier;

/** The edges that promises 54 to 63 name: the changes, undo, and the two slots. */
public final class BoundsOfChangesTest {
    private static final Check CHECK = new Check("BoundsOfChangesTest");
    private static final Edges EDGES = new Edges(CHECK);
    private static final int[] FAR = {Integer.MIN_VALUE, -1, 60, Integer.MAX_VALUE};

    public static void main(String[] args) {
        CHECK.runPromises(BoundsOfChangesTest.class);
        CHECK.end();
    }

    private static void noIndex(String what, Consumer<ResolutionProver> call) {
        CHECK.refused(what, IndexOutOfBoundsException.class, Provers::worked, call);
    }

    private static void noState(String what, Consumer<ResolutionProver> call) {
        CHECK.refused(what, IllegalStateException.class, Provers::worked, call);
    }

    private static void noStateIfFull(String what, Consumer<ResolutionProver> call) {
        CHECK.refused(what + " with 60 clauses", IllegalStateException.class,
            Provers::workedAndFull, call);
    }

    /** It has to be one change, and undo has to bring everything back, also with 60 clauses. */
    private static void isOneChange(String what, Consumer<ResolutionProver> call) {
        isOneChangeOfWorked(what, call);
        isOneChangeOf(what, Provers::workedAndFull, call);
    }

    private static void isOneChangeOfWorked(String what, Consumer<ResolutionProver> call) {
        isOneChangeOf(what, Provers::worked, call);
    }

    private static void isOneChangeOf(
            String what, Supplier<ResolutionProver> maker, Consumer<ResolutionProver> call) {
        ResolutionProver x = maker.get();
        int before = x.undoDepth();
        call.accept(x);
        CHECK.equal("changes behind " + what, x.undoDepth(), before + 1);
        CHECK.equal("undo of " + what, x.undo(), before);
        CHECK.leavesAll(what, maker, y -> {
            call.accept(y);
            y.undo();
        });
    }

    private static void isNoChange(String what, Consumer<ResolutionProver> call) {
        ResolutionProver x = Provers.worked();
        int before = x.undoDepth();
        String state = Feed.state(x);
        call.accept(x);
        CHECK.equal("changes behind " + what, x.undoDepth(), before);
        CHECK.same("the state behind " + what, Feed.state(x), state);
    }

    // ---- promise 54

    static void promise54AddClauseRefusesWhatIsNoClause() {
        EDGES.literals("addClause", ResolutionProver::addClause);
    }

    static void promise54AddClauseReturnsItsNumber() {
        ResolutionProver x = Provers.withVariables(12);
        for (int number = 0; number < 60; number++) {
            CHECK.equal("addClause", x.addClause(number, 4095 & ~number), number);
        }
        CHECK.equal("clauseCount", x.clauseCount(), 60);
        CHECK.equal("positiveOf(59)", x.positiveOf(59), 59);
        CHECK.equal("negativeOf(59)", x.negativeOf(59), 4095 & ~59);
        CHECK.yes("isGiven(59)", x.isGiven(59));
        CHECK.noState("the 61st", () -> x.addClause(60, 0));
    }

    static void promise54AddClauseThatExistsAlready() {
        noState("a given clause", x -> x.addClause(3, 0));
        noState("the last clause, a resolvent", x -> x.addClause(0, 4));
        noStateIfFull("a clause that exists", x -> x.addClause(2, 1));
        noStateIfFull("a new clause", x -> x.addClause(0, 0));
        noStateIfFull("a new clause", x -> x.addClause(4095, 0));
        ResolutionProver x = new ResolutionProver();
        x.addClause(0, 0);
        CHECK.noState("the empty clause", () -> x.addClause(0, 0));
        x.dropClause(0);
        CHECK.equal("a dropped clause", x.addClause(0, 0), 0);
        x.undo();
        CHECK.equal("a clause that was undone", x.addClause(0, 0), 0);
        x.addClause(1, 2);
        CHECK.equal("with the masks the other way round", x.addClause(2, 1), 2);
    }

    static void promise54AddClauseThrowsTheFirstExceptionThatApplies() {
        int[][] wrong = {{4096, 0}, {0, 4096}, {-1, 0}, {0, -1}, {1, 1}, {Integer.MIN_VALUE, 0},
            {0, Integer.MAX_VALUE}};
        for (int[] masks : wrong) {
            CHECK.refused("addClause(" + masks[0] + ", " + masks[1] + ") with 60 clauses",
                IllegalArgumentException.class, Provers::workedAndFull,
                x -> x.addClause(masks[0], masks[1]));
        }
    }

    static void promise54AddClauseIsOneChange() {
        isOneChangeOfWorked("addClause", x -> CHECK.equal("addClause", x.addClause(15, 0), 6));
    }

    // ---- promise 55

    static void promise55ResolveOfTheNumbersOfAllClauses() {
        for (int clause : FAR) {
            for (int other : new int[] {0, 5, 6, -1, Integer.MAX_VALUE}) {
                noIndex("resolve(" + clause + ", " + other + ")", x -> x.resolve(clause, other));
                noIndex("resolve(" + other + ", " + clause + ")", x -> x.resolve(other, clause));
            }
        }
        noIndex("resolve(6, 0)", x -> x.resolve(6, 0));
        noIndex("resolve(0, 6)", x -> x.resolve(0, 6));
        CHECK.noIndex("without clauses", () -> new ResolutionProver().resolve(0, 0));
    }

    static void promise55ResolveThrowsTheFirstExceptionThatApplies() {
        for (int clause : FAR) {
            CHECK.refused("resolve(0, " + clause + ") with 60 clauses",
                IndexOutOfBoundsException.class, Provers::workedAndFull, x -> x.resolve(0, clause));
            CHECK.refused("resolve(" + clause + ", 0) with 60 clauses",
                IndexOutOfBoundsException.class, Provers::workedAndFull, x -> x.resolve(clause, 0));
        }
        CHECK.refused("a clause with itself, with 60 clauses", IllegalArgumentException.class,
            Provers::workedAndFull, x -> x.resolve(59, 59));
        CHECK.refused("clauses without a clash, with 60 clauses", IllegalArgumentException.class,
            Provers::workedAndFull, x -> x.resolve(0, 2));
        noStateIfFull("a resolvent that exists", x -> x.resolve(0, 1));
    }

    static void promise55ResolveOfNoneAndOfTwoClashes() {
        ResolutionProver x = Feed.loaded("logic 4;clause a b;clause -a -b;clause c;clause -a c;");
        String state = Feed.state(x);
        CHECK.noArgument("no clash", () -> x.resolve(0, 2));
        CHECK.noArgument("no clash", () -> x.resolve(2, 3));
        CHECK.noArgument("two clashes", () -> x.resolve(0, 1));
        CHECK.noArgument("a clause with itself", () -> x.resolve(0, 0));
        CHECK.same("the state", Feed.state(x), state);
        CHECK.equal("one clash", x.resolve(0, 3), 4);
        CHECK.refused("no clash", IllegalArgumentException.class, Provers::worked,
            y -> y.resolve(0, 0));
    }

    static void promise55ResolveIfTheResolventExists() {
        noState("a resolvent that exists", x -> x.resolve(0, 1));
        noState("in the other order", x -> x.resolve(1, 0));
        ResolutionProver x = Feed.loaded("logic 2;clause a;clause -a b;clause b;");
        CHECK.noState("a given clause that is the same", () -> x.resolve(0, 1));
        x.dropClause(2);
        CHECK.equal("a dropped one", x.resolve(0, 1), 2);
    }

    static void promise55ResolveWith59And60Clauses() {
        ResolutionProver x = Provers.ofRing(46);
        x.addClause(1, 0);
        CHECK.equal("with 59 clauses", x.resolve(0, 58), 59);
        CHECK.equal("positiveParent(59)", x.positiveParent(59), 58);
        CHECK.equal("negativeParent(59)", x.negativeParent(59), 0);
        CHECK.noState("with 60 clauses", () -> x.resolve(1, 59));
        x.undo();
        CHECK.equal("with 59 clauses again", x.resolve(58, 0), 59);
    }

    // ---- promise 56

    static void promise56SaturateOf1To99Steps() {
        for (int steps : Provers.outside(1, 99)) {
            CHECK.refused("saturate(" + steps + ")", IllegalArgumentException.class,
                Provers::worked, x -> x.saturate(steps));
        }
        CHECK.refused("saturate(0)", IllegalArgumentException.class, Provers::worked,
            x -> x.saturate(0));
        CHECK.equal("saturate(1)", Feed.loaded(Provers.RING).saturate(1), 1);
        CHECK.equal("saturate(2)", Feed.loaded(Provers.RING).saturate(2), 2);
        CHECK.equal("saturate(47)", Feed.loaded(Provers.RING).saturate(47), 47);
        CHECK.equal("saturate(48)", Feed.loaded(Provers.RING).saturate(48), 48);
        CHECK.equal("saturate(49)", Feed.loaded(Provers.RING).saturate(49), 48);
        CHECK.equal("saturate(98)", Feed.loaded(Provers.RING).saturate(98), 48);
        CHECK.equal("saturate(99)", Feed.loaded(Provers.RING).saturate(99), 48);
    }

    static void promise56SaturateWithoutANextStep() {
        noStateIfFull("saturate(1)", x -> x.saturate(1));
        noStateIfFull("saturate(99)", x -> x.saturate(99));
        CHECK.noState("without clauses", () -> new ResolutionProver().saturate(1));
        CHECK.noState("with one clause", () -> Provers.withClauses(1).saturate(99));
        ResolutionProver x = Feed.loaded("logic 3;clause a;clause -a b;");
        CHECK.equal("saturate(99)", x.saturate(99), 1);
        CHECK.noState("saturate(99)", () -> x.saturate(99));
        CHECK.equal("undoDepth", x.undoDepth(), 1);
        CHECK.noState("with an empty clause",
            () -> Feed.loaded("logic 3;clause a;clause -a b;clause;").saturate(1));
    }

    static void promise56SaturateThrowsTheFirstExceptionThatApplies() {
        for (int steps : new int[] {Integer.MIN_VALUE, -1, 0, 100, Integer.MAX_VALUE}) {
            CHECK.refused("saturate(" + steps + ") with 60 clauses",
                IllegalArgumentException.class, Provers::workedAndFull, x -> x.saturate(steps));
            CHECK.noArgument("without clauses", () -> new ResolutionProver().saturate(steps));
        }
    }

    static void promise56SaturateStopsAtTheEmptyClause() {
        ResolutionProver x = Feed.loaded("logic 3;clause a;clause -a;clause b;clause -b c;");
        CHECK.equal("saturate(99)", x.saturate(99), 1);
        CHECK.equal("emptyClause", x.emptyClause(), 4);
        CHECK.noState("saturate(1)", () -> x.saturate(1));
    }

    /** The pairs are looked at anew by each call. */
    static void promise56SaturateBehindAnUndo() {
        ResolutionProver x = Feed.loaded("logic 4;clause a;clause -a b;clause -b c;clause d;");
        String state = Feed.state(x);
        CHECK.equal("saturate(99)", x.saturate(99), 3);
        CHECK.noState("saturate(99)", () -> x.saturate(99));
        x.undo();
        CHECK.same("the state", Feed.state(x), state);
        CHECK.equal("saturate(1)", x.saturate(1), 1);
        CHECK.equal("saturate(99)", x.saturate(99), 2);
        x.undo();
        x.undo();
        CHECK.equal("saturate(99)", x.saturate(99), 3);
    }

    static void promise56SaturateStopsAt60Clauses() {
        ResolutionProver x = Provers.ofRing(46);
        CHECK.equal("with 58 clauses", x.saturate(99), 2);
        CHECK.equal("clauseCount", x.clauseCount(), 60);
        ResolutionProver y = Provers.ofRing(47);
        CHECK.equal("with 59 clauses", y.saturate(1), 1);
        CHECK.noState("with 60 clauses", () -> y.saturate(1));
        CHECK.equal("undo", y.undo(), 0);
        CHECK.equal("clauseCount", y.clauseCount(), 59);
    }

    static void promise56SaturateIsOneChange() {
        isOneChangeOf("saturate(99)", () -> Feed.loaded(Provers.RING),
            x -> CHECK.equal("saturate(99)", x.saturate(99), 48));
    }

    // ---- promise 57

    static void promise57DropClauseOfTheNumbersOfAllClauses() {
        EDGES.clauseNumbers("dropClause", ResolutionProver::dropClause);
    }

    static void promise57DropClauseThatIsAParent() {
        for (int parent : new int[] {0, 1, 2, 4}) {
            noState("dropClause(" + parent + ")", x -> x.dropClause(parent));
        }
        noStateIfFull("dropClause(0)", x -> x.dropClause(0));
        isOneChange("dropClause of the last clause", x -> x.dropClause(x.clauseCount() - 1));
        ResolutionProver x = Provers.worked();
        x.dropClause(5);
        CHECK.noState("dropClause(1)", () -> x.dropClause(1));
        CHECK.equal("no parent any more", x.dropClause(4), 1);
        CHECK.equal("no parent any more", x.dropClause(0), 4);
    }

    static void promise57DropClauseReturnsTheNumberOfModels() {
        for (int variables : new int[] {1, 12}) {
            ResolutionProver x = Provers.withVariables(variables);
            int all = (1 << variables) - 1;
            x.addClause(all, 0);
            x.addClause(0, 0);
            CHECK.equal("of the empty clause", x.dropClause(1), all);
            CHECK.equal("of the only clause", x.dropClause(0), all + 1);
            x.addClause(1, 0);
            x.addClause(0, 1);
            x.addClause(0, 0);
            CHECK.equal("without models", x.dropClause(2), 0);
        }
    }

    static void promise57DropClauseDecreasesTheNumbersOfTheLaterOnes() {
        ResolutionProver x = Provers.withClauses(60);
        x.dropClause(0);
        CHECK.equal("clauseCount", x.clauseCount(), 59);
        CHECK.equal("the first one", x.positiveOf(0), 2);
        CHECK.equal("the last one", x.positiveOf(58), 60);
        x.dropClause(58);
        CHECK.equal("the first one", x.positiveOf(0), 2);
        CHECK.equal("the last one", x.positiveOf(57), 59);
        x.dropClause(1);
        CHECK.equal("the first one", x.positiveOf(0), 2);
        CHECK.equal("the second one", x.positiveOf(1), 4);
        ResolutionProver y = Feed.loaded("logic 4;clause c;clause a;clause d;clause -a b;");
        y.resolve(1, 3);
        y.dropClause(2);
        CHECK.same("the state", Feed.state(y), "4 | 4/0 | 1/0 | 2/1 | 2/0 of 1+2 by 0");
        y.dropClause(0);
        CHECK.same("the state", Feed.state(y), "4 | 1/0 | 2/1 | 2/0 of 0+1 by 0");
    }

    // ---- promise 58

    static void promise58NegateVariableOfTheNumbersOfAllVariables() {
        EDGES.variableNumbers("negateVariable", ResolutionProver::negateVariable);
        CHECK.refused("negateVariable(12)", IndexOutOfBoundsException.class,
            Provers::workedAndFull, x -> x.negateVariable(12));
    }

    static void promise58NegateVariableReturns0To60() {
        ResolutionProver x = Provers.withVariables(12);
        CHECK.equal("without clauses", x.negateVariable(0), 0);
        for (int k = 0; k < 60; k++) {
            x.addClause(2048 | k << 1, k & 1);
        }
        CHECK.equal("in all clauses", x.negateVariable(11), 60);
        CHECK.equal("in half of them", x.negateVariable(0), 30);
        CHECK.equal("in half of them", x.negateVariable(1), 30);
        CHECK.equal("in none", x.negateVariable(10), 0);
        CHECK.equal("negativeOf(59)", x.negativeOf(59), 2050);
        CHECK.equal("positiveOf(59)", x.positiveOf(59), 117);
    }

    static void promise58NegateVariableIsOneChange() {
        isOneChange("negateVariable", x -> x.negateVariable(0));
        isOneChange("negateVariable", x -> x.negateVariable(3));
        ResolutionProver x = Provers.withVariables(12);
        for (int k = 1; k <= 9; k++) {
            CHECK.equal("no clause is different", x.negateVariable(11), 0);
            CHECK.equal("undoDepth", x.undoDepth(), Math.min(k, 8));
        }
    }

    /** A resolvent without the variable keeps its literals, and its parents change their roles. */
    static void promise58NegateVariableOfAResolvent() {
        for (int variable : new int[] {0, 11}) {
            ResolutionProver x = Provers.withVariables(12);
            int bit = 1 << variable;
            x.addClause(bit | 2, 0);
            x.addClause(4, bit);
            x.resolve(0, 1);
            CHECK.equal("the resolvent is not different", x.negateVariable(variable), 2);
            CHECK.equal("positiveOf(2)", x.positiveOf(2), 6);
            CHECK.equal("positiveParent(2)", x.positiveParent(2), 1);
            CHECK.equal("negativeParent(2)", x.negativeParent(2), 0);
            CHECK.equal("variableOf(2)", x.variableOf(2), variable);
            CHECK.equal("the resolvent is different", x.negateVariable(1), 2);
            CHECK.equal("positiveParent(2)", x.positiveParent(2), 1);
            CHECK.equal("negativeOf(2)", x.negativeOf(2), 2);
        }
    }

    // ---- promise 59

    static void promise59ReduceReturns0To59() {
        CHECK.equal("without clauses", new ResolutionProver().reduce(), 0);
        CHECK.equal("of one clause", Provers.withClauses(1).reduce(), 0);
        CHECK.equal("of a ring", Provers.ofRing(48).reduce(), 0);
        ResolutionProver x = Provers.withVariables(12);
        x.addClause(0, 0);
        for (int mask = 1; mask < 60; mask++) {
            x.addClause(mask, 0);
        }
        CHECK.equal("all behind the empty clause", x.reduce(), 59);
        CHECK.same("the state", Feed.state(x), "12 | 0/0");
        ResolutionProver y = Provers.ofRing(47);
        y.addClause(0, 0);
        CHECK.equal("all before the empty clause", y.reduce(), 59);
        CHECK.same("the state", Feed.state(y), "12 | 0/0");
        CHECK.equal("undo", y.undo(), 1);
        CHECK.equal("clauseCount", y.clauseCount(), 60);
    }

    static void promise59ReduceKeepsParents() {
        ResolutionProver x = Feed.loaded("logic 3;clause a b;clause -a b;");
        x.resolve(0, 1);
        CHECK.equal("subsumedClauses", x.subsumedClauses(), 2);
        CHECK.equal("both are parents", x.reduce(), 0);
        x.addClause(2, 4);
        x.addClause(0, 5);
        CHECK.equal("one is none", x.reduce(), 1);
        CHECK.same("the state", Feed.state(x), "3 | 3/0 | 2/1 | 2/0 of 0+1 by 0 | 0/5");
    }

    /** The resolvent goes first, and its parent is none any more then. */
    static void promise59ReduceDropsWhatIsNoParentAnyMore() {
        ResolutionProver x = Feed.loaded("logic 4;clause a b;clause -b c;clause d;clause d b;");
        x.resolve(0, 1);
        x.addClause(1, 0);
        CHECK.equal("reduce", x.reduce(), 3);
        CHECK.same("the state", Feed.state(x), "4 | 4/2 | 8/0 | 1/0");
    }

    static void promise59ReduceIsOneChange() {
        isOneChange("reduce", ResolutionProver::reduce);
        ResolutionProver x = new ResolutionProver();
        for (int k = 1; k <= 9; k++) {
            CHECK.equal("no clause is dropped", x.reduce(), 0);
            CHECK.equal("undoDepth", x.undoDepth(), Math.min(k, 8));
        }
    }

    // ---- promises 60 and 61

    static void promise60UndoWithoutAChange() {
        CHECK.refused("undo of a new object", IllegalStateException.class, ResolutionProver::new,
            ResolutionProver::undo);
        CHECK.refused("undo behind load", IllegalStateException.class,
            () -> Provers.ofRing(48), ResolutionProver::undo);
        ResolutionProver x = new ResolutionProver();
        x.addClause(1, 0);
        CHECK.equal("undo", x.undo(), 0);
        CHECK.noState("undo", x::undo);
        CHECK.noState("undo", x::undo);
        x.addClause(1, 0);
        CHECK.equal("undo", x.undo(), 0);
    }

    static void promise60UndoOfTheLatest8Changes() {
        for (int changes = 1; changes <= 20; changes++) {
            ResolutionProver x = Provers.withVariables(12);
            for (int k = 1; k <= changes; k++) {
                x.addClause(k, 0);
            }
            int most = Math.min(changes, 8);
            for (int left = most - 1; left >= 0; left--) {
                CHECK.equal("undo", x.undo(), left);
                CHECK.equal("clauseCount", x.clauseCount(), changes - most + left);
            }
            CHECK.noState("undo", x::undo);
            CHECK.equal("clauseCount", x.clauseCount(), changes - most);
        }
    }

    /** What was pushed out does not come back, and a change behind an undo counts anew. */
    static void promise60UndoAndChangesInTurn() {
        ResolutionProver x = Provers.withClauses(10);
        for (int k = 0; k < 5; k++) {
            CHECK.equal("undo", x.undo(), 7 - k);
        }
        for (int k = 0; k < 6; k++) {
            x.addClause(0, k + 1);
            CHECK.equal("undoDepth", x.undoDepth(), Math.min(4 + k, 8));
        }
        CHECK.equal("clauseCount", x.clauseCount(), 11);
        for (int left = 7; left >= 0; left--) {
            CHECK.equal("undo", x.undo(), left);
        }
        CHECK.equal("clauseCount", x.clauseCount(), 3);
        CHECK.noState("undo", x::undo);
    }

    static void promise60UndoOfEachKindOfChange() {
        isOneChange("dropClause", x -> x.dropClause(x.clauseCount() - 1));
        isOneChange("negateVariable", x -> x.negateVariable(1));
        isOneChange("reduce", ResolutionProver::reduce);
        isOneChangeOfWorked("addClause", x -> x.addClause(0, 0));
        isOneChangeOfWorked("resolve", x -> x.resolve(3, 5));
        isOneChangeOfWorked("saturate", x -> x.saturate(1));
        Supplier<ResolutionProver> maker = Check.behind(Provers::worked, x -> x.truncate(0));
        CHECK.alikeButParseError("undo of play", Check.behind(maker, x -> {
            Feed.play(x, "reduce;clause;");
            CHECK.equal("undo of play", x.undo(), 4);
        }), maker);
    }

    static void promise60UndoBringsBackTheStateAndNothingElse() {
        ResolutionProver x = Provers.worked();
        x.undo();
        x.undo();
        CHECK.equal("clauseCount", x.clauseCount(), 5);
        isWorkedButForTheState(x);
    }

    private static void isWorkedButForTheState(ResolutionProver x) {
        CHECK.equal("parseError", x.parseError(), 4);
        CHECK.equal("parseErrorPosition", x.parseErrorPosition(), 12);
        CHECK.equal("outputByte(0)", x.outputByte(0), 'a');
        CHECK.equal("outputByte(2)", x.outputByte(2), 'b');
        CHECK.equal("bytes in the buffer", Everything.bytes(x), 19);
        CHECK.yes("slot 0 is empty", x.save(0));
        CHECK.no("slot 1 is full", x.save(1));
    }

    static void promise61UndoDepthFrom0To8() {
        ResolutionProver x = new ResolutionProver();
        CHECK.equal("undoDepth", x.undoDepth(), 0);
        for (int k = 1; k <= 30; k++) {
            x.negateVariable(0);
            CHECK.equal("undoDepth", x.undoDepth(), Math.min(k, 8));
        }
        for (int left = 7; left >= 0; left--) {
            x.undo();
            CHECK.equal("undoDepth", x.undoDepth(), left);
        }
        CHECK.noState("undo", x::undo);
        CHECK.equal("undoDepth", x.undoDepth(), 0);
    }

    static void promise61UndoDepthCountsChangesAlone() {
        isNoChange("save", x -> x.save(0));
        isNoChange("writeClause", x -> x.writeClause(0));
        isNoChange("append", x -> x.append(1, 2, 3, 4, 5));
        isNoChange("truncate", x -> x.truncate(0));
        isNoChange("stepsToEmpty", ResolutionProver::stepsToEmpty);
        isNoChange("a refused addClause", x -> CHECK.noState("add", () -> x.addClause(3, 0)));
        isNoChange("a refused resolve", x -> CHECK.noArgument("resolve", () -> x.resolve(0, 0)));
        isNoChange("a refused saturate", x -> CHECK.noArgument("saturate", () -> x.saturate(0)));
        isNoChange("a refused dropClause", x -> CHECK.noState("drop", () -> x.dropClause(0)));
        isNoChange("a refused negateVariable",
            x -> CHECK.noIndex("negateVariable", () -> x.negateVariable(4)));
        isNoChange("a refused restore", x -> CHECK.noState("restore", () -> x.restore(0)));
        isNoChange("a refused load", x -> CHECK.noArgument("load", x::load));
        isNoChange("a refused play", x -> {
            x.truncate(11);
            CHECK.noArgument("play", x::play);
        });
    }

    // ---- promises 62 and 63

    static void promise62SaveInSlots0And1() {
        EDGES.slotNumbers("save", ResolutionProver::save);
        ResolutionProver x = new ResolutionProver();
        CHECK.yes("save(0)", x.save(0));
        CHECK.no("save(0)", x.save(0));
        CHECK.noState("the other slot is empty", () -> x.restore(1));
        CHECK.yes("save(1)", x.save(1));
        CHECK.no("save(1)", x.save(1));
    }

    static void promise62SaveReplacesWhatWasSaved() {
        ResolutionProver x = new ResolutionProver();
        x.addClause(1, 0);
        x.save(0);
        x.addClause(2, 0);
        CHECK.no("save(0)", x.save(0));
        x.addClause(4, 0);
        CHECK.equal("restore(0)", x.restore(0), 2);
        CHECK.yes("save(1)", x.save(1));
        x.dropClause(0);
        x.dropClause(0);
        CHECK.no("save(0)", x.save(0));
        CHECK.equal("restore(1)", x.restore(1), 2);
        CHECK.equal("restore(0)", x.restore(0), 0);
    }

    static void promise62SaveIsEmptyAgainBehindALoadAlone() {
        ResolutionProver x = new ResolutionProver();
        x.save(0);
        x.save(1);
        x.restore(0);
        CHECK.no("behind restore", x.save(0));
        x.addClause(1, 0);
        x.undo();
        CHECK.no("behind undo", x.save(1));
        Feed.put(x, "logic 4;$");
        CHECK.noArgument("load", x::load);
        CHECK.no("behind a load that throws", x.save(0));
        Feed.load(x, "logic 4;");
        CHECK.yes("behind load", x.save(0));
        CHECK.yes("behind load", x.save(1));
    }

    static void promise63RestoreOfSlots0And1() {
        EDGES.slotNumbers("restore", ResolutionProver::restore);
        ResolutionProver x = new ResolutionProver();
        for (int slot : Provers.outside(0, 1)) {
            CHECK.noIndex("restore(" + slot + ") with empty slots", () -> x.restore(slot));
        }
    }

    static void promise63RestoreOfAnEmptySlot() {
        noState("restore(0)", x -> x.restore(0));
        CHECK.refused("restore(1)", IllegalStateException.class, Provers::workedAndFull,
            x -> x.restore(1));
        ResolutionProver x = new ResolutionProver();
        CHECK.noState("restore(0)", () -> x.restore(0));
        x.save(0);
        CHECK.equal("restore(0)", x.restore(0), 0);
        CHECK.noState("restore(1)", () -> x.restore(1));
    }

    static void promise63RestoreReturns0To60() {
        for (int count : new int[] {0, 1, 59, 60}) {
            ResolutionProver x = Provers.withClauses(count);
            x.save(1);
            x.negateVariable(0);
            CHECK.equal("restore(1)", x.restore(1), count);
            CHECK.same("the state", Feed.state(x), Feed.state(Provers.withClauses(count)));
        }
        Supplier<ResolutionProver> saved = Check.behind(() -> Provers.ofRing(48), x -> x.save(0));
        CHECK.leavesAll("restore(0)", saved, x -> {
            x.dropClause(59);
            x.negateVariable(11);
            CHECK.equal("restore(0)", x.restore(0), 60);
        });
    }

    static void promise63RestoreBringsBackTheStateAndNothingElse() {
        ResolutionProver x = Provers.worked();
        CHECK.equal("restore(1)", x.restore(1), 4);
        isWorkedButForTheState(x);
    }

    static void promise63RestoreLeavesNothingToUndo() {
        for (int changes : new int[] {0, 1, 8, 9}) {
            ResolutionProver x = new ResolutionProver();
            x.save(0);
            for (int k = 0; k < changes; k++) {
                x.negateVariable(0);
            }
            x.restore(0);
            CHECK.equal("undoDepth", x.undoDepth(), 0);
            CHECK.noState("undo", x::undo);
            x.addClause(1, 0);
            CHECK.equal("a change since then", x.undoDepth(), 1);
            CHECK.equal("undo", x.undo(), 0);
        }
    }

    static void promise63RestoreKeepsTheSlots() {
        ResolutionProver x = new ResolutionProver();
        x.addClause(1, 0);
        x.save(0);
        x.addClause(2, 0);
        x.save(1);
        for (int k = 0; k < 3; k++) {
            CHECK.equal("restore(0)", x.restore(0), 1);
            x.dropClause(0);
            CHECK.equal("restore(1)", x.restore(1), 2);
            x.addClause(4, 0);
        }
        CHECK.same("the state", Feed.state(x), "4 | 1/0 | 2/0 | 4/0");
    }
}
