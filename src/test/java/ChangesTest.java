/** Promises 54 to 63: the changes, undo, save and restore. */
public final class ChangesTest {
    private static final Check CHECK = new Check("ChangesTest");

    public static void main(String[] args) {
        addClause();
        addToFull();
        resolve();
        saturate();
        saturateToSixty();
        dropClause();
        negateVariable();
        reduce();
        undo();
        undoDepth();
        save();
        restore();
        CHECK.end();
    }

    /** Promise 54. */
    private static void addClause() {
        ResolutionProver x = new ResolutionProver();
        CHECK.equal("addClause", x.addClause(1, 6), 0);
        CHECK.equal("addClause", x.addClause(6, 1), 1);
        CHECK.equal("addClause", x.addClause(0, 0), 2);
        CHECK.equal("addClause", x.addClause(15, 0), 3);
        CHECK.same("the state", Feed.state(x), "4 | 1/6 | 6/1 | 0/0 | 15/0");
        CHECK.noArgument("addClause(16, 0)", () -> x.addClause(16, 0));
        CHECK.noArgument("addClause(0, 16)", () -> x.addClause(0, 16));
        CHECK.noArgument("addClause(-1, 0)", () -> x.addClause(-1, 0));
        CHECK.noArgument("addClause(0, least)", () -> x.addClause(0, Integer.MIN_VALUE));
        CHECK.noArgument("addClause(3, 2)", () -> x.addClause(3, 2));
        CHECK.noState("addClause(1, 6)", () -> x.addClause(1, 6));
        CHECK.noState("addClause(0, 0)", () -> x.addClause(0, 0));
        CHECK.equal("undoDepth", x.undoDepth(), 4);
        CHECK.equal("clauseCount", x.clauseCount(), 4);
    }

    private static ResolutionProver withClauses(int most) {
        ResolutionProver x = Feed.loaded("logic 12;clause a b;clause -a c;clause -b;");
        for (int mask = 8; x.clauseCount() < most; mask += 8) {
            x.addClause(mask, 0);
        }
        return x;
    }

    private static void addToFull() {
        ResolutionProver x = withClauses(59);
        CHECK.equal("addClause", x.addClause(2048, 1), 59);
        CHECK.noState("addClause", () -> x.addClause(2048, 2));
        CHECK.noArgument("the first exception", () -> x.addClause(4096, 2));
        CHECK.noState("resolve", () -> x.resolve(0, 1));
        CHECK.noArgument("the first exception", () -> x.resolve(0, 0));
        CHECK.noState("saturate", () -> x.saturate(1));
        CHECK.equal("clauseCount", x.clauseCount(), 60);
        CHECK.equal("undo", x.undo(), 7);
        CHECK.equal("resolve", x.resolve(0, 1), 59);
    }

    /** Promise 55. */
    private static void resolve() {
        ResolutionProver x = Feed.loaded("logic 4;clause a b;clause -a c;clause -a -b;clause -c;");
        CHECK.equal("resolve", x.resolve(1, 0), 4);
        CHECK.equal("positiveParent", x.positiveParent(4), 0);
        CHECK.equal("negativeParent", x.negativeParent(4), 1);
        CHECK.equal("resolve", x.resolve(3, 4), 5);
        CHECK.same("the state", Feed.state(x), "4 | 3/0 | 4/1 | 0/3 | 0/4"
            + " | 6/0 of 0+1 by 0 | 2/0 of 4+3 by 2");
        CHECK.noIndex("resolve(6, 0)", () -> x.resolve(6, 0));
        CHECK.noIndex("resolve(0, 6)", () -> x.resolve(0, 6));
        CHECK.noIndex("resolve(-1, 0)", () -> x.resolve(-1, 0));
        CHECK.noIndex("resolve(0, -1)", () -> x.resolve(0, -1));
        CHECK.noArgument("resolve(0, 2)", () -> x.resolve(0, 2));
        CHECK.noArgument("resolve(0, 0)", () -> x.resolve(0, 0));
        CHECK.noArgument("resolve(0, 3)", () -> x.resolve(0, 3));
        CHECK.noState("resolve(0, 1)", () -> x.resolve(0, 1));
        CHECK.noState("resolve(4, 3)", () -> x.resolve(4, 3));
        CHECK.equal("undoDepth", x.undoDepth(), 2);
        CHECK.equal("a subsumed resolvent", x.resolve(5, 2), 6);
        CHECK.equal("negativeOf", x.negativeOf(6), 1);
    }

    /** Promise 56. */
    private static void saturate() {
        ResolutionProver x = Feed.loaded("logic 3;clause a b;clause -a c;clause -b c;clause -c;");
        CHECK.noArgument("saturate(0)", () -> x.saturate(0));
        CHECK.noArgument("saturate(100)", () -> x.saturate(100));
        CHECK.noArgument("saturate(-1)", () -> x.saturate(-1));
        CHECK.equal("saturate", x.saturate(2), 2);
        CHECK.same("the state", Feed.state(x), "3 | 3/0 | 4/1 | 4/2 | 0/4"
            + " | 6/0 of 0+1 by 0 | 5/0 of 0+2 by 1");
        CHECK.equal("one change", x.undoDepth(), 1);
        CHECK.equal("saturate", x.saturate(99), 6);
        CHECK.equal("emptyClause", x.emptyClause(), 11);
        CHECK.equal("clauseCount", x.clauseCount(), 12);
        CHECK.noState("saturate", () -> x.saturate(1));
        CHECK.noArgument("the first exception", () -> x.saturate(0));
        CHECK.equal("undo", x.undo(), 1);
        CHECK.equal("clauseCount", x.clauseCount(), 6);
        Feed.load(x, "logic 3;clause a b;clause -a;");
        CHECK.equal("saturate", x.saturate(99), 1);
        CHECK.noState("saturate", () -> x.saturate(99));
        CHECK.equal("undoDepth", x.undoDepth(), 1);
        CHECK.noState("saturate without clauses", () -> new ResolutionProver().saturate(1));
    }

    private static void saturateToSixty() {
        ResolutionProver x = withClauses(58);
        CHECK.equal("saturate", x.saturate(99), 2);
        CHECK.equal("clauseCount", x.clauseCount(), 60);
        CHECK.equal("positiveOf", x.positiveOf(58), 6);
        CHECK.equal("positiveOf", x.positiveOf(59), 1);
        CHECK.noState("saturate", () -> x.saturate(1));
    }

    /** Promise 57. */
    private static void dropClause() {
        ResolutionProver x = Feed.loaded("logic 3;clause c;clause a b;clause -a;clause -b -c;");
        x.resolve(1, 2);
        x.resolve(4, 3);
        CHECK.noState("dropClause(1)", () -> x.dropClause(1));
        CHECK.noState("dropClause(2)", () -> x.dropClause(2));
        CHECK.noState("dropClause(4)", () -> x.dropClause(4));
        CHECK.noIndex("dropClause(6)", () -> x.dropClause(6));
        CHECK.noIndex("dropClause(-1)", () -> x.dropClause(-1));
        CHECK.equal("undoDepth", x.undoDepth(), 2);
        CHECK.equal("dropClause(0)", x.dropClause(0), 1);
        CHECK.same("the state", Feed.state(x), "3 | 3/0 | 0/1 | 0/6"
            + " | 2/0 of 0+1 by 0 | 0/4 of 3+2 by 1");
        CHECK.equal("depthOf", x.depthOf(4), 2);
        CHECK.equal("dropClause(4)", x.dropClause(4), 1);
        CHECK.equal("dropClause(2)", x.dropClause(2), 2);
        CHECK.equal("dropClause(2)", x.dropClause(2), 2);
        CHECK.equal("dropClause(1)", x.dropClause(1), 6);
        CHECK.equal("dropClause(0)", x.dropClause(0), 8);
        CHECK.noIndex("dropClause(0)", () -> x.dropClause(0));
        CHECK.equal("undoDepth", x.undoDepth(), 8);
    }

    /** Promise 58. */
    private static void negateVariable() {
        ResolutionProver x = Feed.loaded("logic 3;clause a b;clause -a c;clause -b;");
        x.resolve(0, 1);
        x.resolve(2, 3);
        CHECK.equal("negateVariable", x.negateVariable(1), 3);
        CHECK.same("the state", Feed.state(x), "3 | 1/2 | 4/1 | 2/0"
            + " | 4/2 of 0+1 by 0 | 4/0 of 2+3 by 1");
        CHECK.equal("negateVariable", x.negateVariable(0), 2);
        CHECK.same("the state", Feed.state(x), "3 | 0/3 | 5/0 | 2/0"
            + " | 4/2 of 1+0 by 0 | 4/0 of 2+3 by 1");
        CHECK.equal("depthOf", x.depthOf(4), 2);
        CHECK.noIndex("negateVariable(3)", () -> x.negateVariable(3));
        CHECK.noIndex("negateVariable(-1)", () -> x.negateVariable(-1));
        CHECK.equal("undoDepth", x.undoDepth(), 4);
        Feed.load(x, "logic 3;clause a;");
        CHECK.equal("no clause is different", x.negateVariable(2), 0);
        CHECK.equal("it is a change", x.undoDepth(), 1);
    }

    /** Promise 59. */
    private static void reduce() {
        ResolutionProver x = Feed.loaded("logic 4;clause a b;clause -a;clause a b c;clause b d;");
        x.resolve(0, 1);
        CHECK.equal("reduce", x.reduce(), 2);
        CHECK.same("parents stay", Feed.state(x), "4 | 3/0 | 0/1 | 2/0 of 0+1 by 0");
        CHECK.equal("reduce", x.reduce(), 0);
        CHECK.equal("it is a change", x.undoDepth(), 3);
        x.addClause(0, 0);
        CHECK.equal("reduce frees parents", x.reduce(), 3);
        CHECK.same("the state", Feed.state(x), "4 | 0/0");
        CHECK.equal("undo", x.undo(), 4);
        CHECK.equal("clauseCount", x.clauseCount(), 4);
        Feed.load(x, "logic 4;clause a b;clause -a b;clause c b a;clause -c b d;");
        x.resolve(0, 1);
        x.resolve(2, 3);
        CHECK.equal("parents of dropped ones go, too", x.reduce(), 3);
        CHECK.same("the state", Feed.state(x), "4 | 3/0 | 2/1 | 2/0 of 0+1 by 0");
    }

    /** Promise 60: each change is undone, and only the state comes back. */
    private static void undo() {
        ResolutionProver x = Feed.loaded("logic 3;clause a b;clause -a;");
        String[] states = new String[8];
        states[0] = Feed.state(x);
        x.resolve(0, 1);
        states[1] = Feed.state(x);
        x.addClause(4, 2);
        states[2] = Feed.state(x);
        x.saturate(1);
        states[3] = Feed.state(x);
        x.negateVariable(0);
        states[4] = Feed.state(x);
        x.dropClause(4);
        states[5] = Feed.state(x);
        x.reduce();
        states[6] = Feed.state(x);
        Feed.play(x, "clause c;invert;");
        states[7] = Feed.state(x);
        x.addClause(0, 0);
        x.save(0);
        x.writeClause(0);
        int written = x.outputByte(0);
        Feed.put(x, "expect refuted;");
        for (int left = 7; left >= 0; left--) {
            CHECK.equal("undo", x.undo(), left);
            CHECK.equal("undoDepth", x.undoDepth(), left);
            CHECK.same("the state " + left, Feed.state(x), states[left]);
        }
        CHECK.noState("undo", x::undo);
        CHECK.equal("outputByte", x.outputByte(0), written);
        CHECK.no("the slot stays filled", x.save(0));
        CHECK.noArgument("the input stays", x::play);
        CHECK.equal("parseError", x.parseError(), 5);
        CHECK.noState("undo", x::undo);
    }

    /** Promise 61: a change more than 8 pushes the oldest one out. */
    private static void undoDepth() {
        ResolutionProver x = new ResolutionProver();
        for (int k = 1; k <= 11; k++) {
            x.addClause(k, 0);
            CHECK.equal("undoDepth", x.undoDepth(), Math.min(k, 8));
        }
        CHECK.equal("undo", x.undo(), 7);
        CHECK.equal("undo", x.undo(), 6);
        x.addClause(0, 1);
        CHECK.equal("undoDepth", x.undoDepth(), 7);
        CHECK.equal("undo", x.undo(), 6);
        for (int left = 5; left >= 0; left--) {
            CHECK.equal("undo", x.undo(), left);
        }
        CHECK.noState("undo", x::undo);
        CHECK.same("the state", Feed.state(x), "4 | 1/0 | 2/0 | 3/0");
    }

    /** Promise 62. */
    private static void save() {
        ResolutionProver x = new ResolutionProver();
        CHECK.noIndex("save(-1)", () -> x.save(-1));
        CHECK.noIndex("save(2)", () -> x.save(2));
        CHECK.yes("save(0)", x.save(0));
        CHECK.no("save(0)", x.save(0));
        CHECK.yes("save(1)", x.save(1));
        CHECK.no("save(1)", x.save(1));
        x.addClause(1, 0);
        CHECK.no("save(1)", x.save(1));
        CHECK.equal("it is no change", x.undoDepth(), 1);
        CHECK.equal("what was saved is replaced", x.restore(1), 1);
        CHECK.equal("the other slot", x.restore(0), 0);
    }

    /** Promise 63. */
    private static void restore() {
        ResolutionProver x = Feed.loaded("logic 3;clause a b;clause -a;");
        x.resolve(0, 1);
        String state = Feed.state(x);
        x.save(1);
        CHECK.noIndex("restore(-1)", () -> x.restore(-1));
        CHECK.noIndex("restore(2)", () -> x.restore(2));
        CHECK.noState("restore(0)", () -> x.restore(0));
        CHECK.equal("undoDepth", x.undoDepth(), 1);
        x.negateVariable(0);
        x.addClause(4, 0);
        CHECK.equal("restore(1)", x.restore(1), 3);
        CHECK.same("the state", Feed.state(x), state);
        CHECK.equal("undoDepth", x.undoDepth(), 0);
        CHECK.noState("undo", x::undo);
        x.dropClause(2);
        CHECK.equal("undoDepth", x.undoDepth(), 1);
        CHECK.equal("the slot keeps it", x.restore(1), 3);
        CHECK.same("the state", Feed.state(x), state);
        CHECK.no("the slot keeps it", x.save(1));
    }
}
