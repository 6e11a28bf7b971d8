/** Promises 40 to 53: the models and unit propagation. */
public final class ModelsTest {
    private static final Check CHECK = new Check("ModelsTest");
    private static final int NONE = ResolutionProver.NONE;

    public static void main(String[] args) {
        models();
        noModels();
        truth();
        bestFlip();
        implied();
        redundant();
        share();
        fixed();
        fixedInOrder();
        conflicts();
        wrongArguments();
        CHECK.end();
    }

    /** Promises 40, 41, 42, 46 and 47. */
    private static void models() {
        ResolutionProver x = Feed.loaded("logic 3;clause a b;clause -a -b;clause -c b;");
        CHECK.equal("modelCount", x.modelCount(), 3);
        CHECK.equal("firstModel", x.firstModel(), 1);
        CHECK.equal("modelAt(0)", x.modelAt(0), 1);
        CHECK.equal("modelAt(1)", x.modelAt(1), 2);
        CHECK.equal("modelAt(2)", x.modelAt(2), 6);
        CHECK.equal("modelAt(3)", x.modelAt(3), NONE);
        CHECK.equal("modelAt(-1)", x.modelAt(-1), NONE);
        CHECK.equal("modelAt(least)", x.modelAt(Integer.MIN_VALUE), NONE);
        CHECK.equal("modelAt(greatest)", x.modelAt(Integer.MAX_VALUE), NONE);
        CHECK.equal("alwaysTrue", x.alwaysTrue(), 0);
        CHECK.equal("alwaysFalse", x.alwaysFalse(), 0);
        x.addClause(0, 1);
        CHECK.equal("alwaysTrue", x.alwaysTrue(), 2);
        CHECK.equal("alwaysFalse", x.alwaysFalse(), 1);
        Feed.load(x, "logic 12;");
        CHECK.equal("modelCount", x.modelCount(), 4096);
        CHECK.equal("firstModel", x.firstModel(), 0);
        CHECK.equal("modelAt(4095)", x.modelAt(4095), 4095);
        CHECK.equal("modelAt(4096)", x.modelAt(4096), NONE);
        CHECK.equal("alwaysTrue", x.alwaysTrue(), 0);
        CHECK.equal("alwaysFalse", x.alwaysFalse(), 0);
        Feed.load(x, "logic 1;clause a;");
        CHECK.equal("modelCount", x.modelCount(), 1);
        CHECK.equal("alwaysTrue", x.alwaysTrue(), 1);
        CHECK.equal("alwaysFalse", x.alwaysFalse(), 0);
    }

    private static void noModels() {
        ResolutionProver x = Feed.loaded("logic 5;clause a;clause -a;");
        CHECK.equal("modelCount", x.modelCount(), 0);
        CHECK.equal("firstModel", x.firstModel(), NONE);
        CHECK.equal("modelAt(0)", x.modelAt(0), NONE);
        CHECK.equal("alwaysTrue", x.alwaysTrue(), 31);
        CHECK.equal("alwaysFalse", x.alwaysFalse(), 31);
        CHECK.yes("isImplied", x.isImplied(0, 0));
        CHECK.share("modelShare", x.modelShare(), 0.0);
        Feed.load(x, "logic 2;clause;");
        CHECK.equal("modelCount", x.modelCount(), 0);
        CHECK.equal("alwaysTrue", x.alwaysTrue(), 3);
    }

    /** Promises 43 and 44. */
    private static void truth() {
        ResolutionProver x = Feed.loaded("logic 3;clause a -b;clause;clause c;clause -a -c;");
        CHECK.yes("isTrue", x.isTrue(0, 0));
        CHECK.yes("isTrue", x.isTrue(0, 3));
        CHECK.no("isTrue", x.isTrue(0, 2));
        CHECK.no("isTrue", x.isTrue(0, 6));
        CHECK.no("the empty clause", x.isTrue(1, 7));
        CHECK.no("isTrue", x.isTrue(3, 5));
        CHECK.yes("isTrue", x.isTrue(3, 4));
        CHECK.equal("falseClauses", x.falseClauses(0), 2);
        CHECK.equal("falseClauses", x.falseClauses(2), 3);
        CHECK.equal("falseClauses", x.falseClauses(4), 1);
        CHECK.equal("falseClauses", x.falseClauses(7), 2);
    }

    /** Promise 45. */
    private static void bestFlip() {
        ResolutionProver x = new ResolutionProver();
        CHECK.equal("the lowest of all", x.bestFlip(0), 0);
        Feed.load(x, "logic 3;clause c;clause b c;clause -a;");
        CHECK.equal("bestFlip", x.bestFlip(0), 2);
        CHECK.equal("bestFlip", x.bestFlip(1), 2);
        CHECK.equal("bestFlip", x.bestFlip(5), 0);
        CHECK.equal("each one makes it worse or not better", x.bestFlip(4), 1);
        Feed.load(x, "logic 3;clause a;clause b;");
        CHECK.equal("the lowest of several", x.bestFlip(0), 0);
        CHECK.equal("bestFlip", x.bestFlip(1), 1);
    }

    /** Promise 48. */
    private static void implied() {
        ResolutionProver x = Feed.loaded("logic 4;clause a b;clause -a c;clause -b c;");
        CHECK.yes("isImplied", x.isImplied(4, 0));
        CHECK.yes("isImplied", x.isImplied(3, 0));
        CHECK.yes("isImplied", x.isImplied(4, 8));
        CHECK.no("isImplied", x.isImplied(1, 0));
        CHECK.no("isImplied", x.isImplied(0, 4));
        CHECK.no("isImplied", x.isImplied(8, 0));
        CHECK.no("the empty clause", x.isImplied(0, 0));
        CHECK.no("without clauses", new ResolutionProver().isImplied(15, 0));
    }

    /** Promise 49. */
    private static void redundant() {
        ResolutionProver x = Feed.loaded("logic 4;clause a b;clause -a b;clause b;clause c;");
        CHECK.yes("isRedundant", x.isRedundant(0));
        CHECK.yes("isRedundant", x.isRedundant(1));
        CHECK.yes("isRedundant", x.isRedundant(2));
        CHECK.no("isRedundant", x.isRedundant(3));
        x.dropClause(1);
        CHECK.no("isRedundant", x.isRedundant(1));
        x.addClause(0, 4);
        CHECK.yes("the others have no model", x.isRedundant(0));
        CHECK.no("isRedundant", x.isRedundant(2));
        Feed.load(x, "logic 2;clause;");
        CHECK.no("the empty clause alone", x.isRedundant(0));
        Feed.play(x, "clause a;clause -a;");
        CHECK.yes("the empty clause", x.isRedundant(0));
    }

    /** Promise 50. */
    private static void share() {
        ResolutionProver x = Feed.loaded("logic 3;clause a b c;");
        CHECK.share("modelShare", x.modelShare(), 0.875);
        x.addClause(1, 0);
        CHECK.share("modelShare", x.modelShare(), 0.5);
        CHECK.share("modelShare", new ResolutionProver().modelShare(), 1.0);
        Feed.load(x, "logic 12;clause a b c d e f g h i j k l;");
        CHECK.share("modelShare", x.modelShare(), 4095.0 / 4096.0);
    }

    /** Promises 51, 52 and 53. */
    private static void fixed() {
        ResolutionProver x = new ResolutionProver();
        propagate(x, "logic 4;", 0, 0, false);
        propagate(x, "logic 4;clause a b;clause -a c;", 0, 0, false);
        propagate(x, "logic 4;clause a;clause -a b;clause -b -c;clause d c;", 11, 4, false);
        propagate(x, "logic 4;clause d c;clause -b -c;clause -a b;clause a;", 11, 4, false);
        propagate(x, "logic 4;clause -d;clause d a b;clause -a d;", 2, 9, false);
        propagate(x, "logic 12;clause -l;clause l k;clause -k j;", 1536, 2048, false);
        propagate(x, "logic 12;clause -k l;clause -j k;clause -i j;clause -h i;clause -g h;"
            + "clause -f g;clause -e f;clause -d e;clause -c d;clause -b c;clause -a b;clause a;",
            4095, 0, false);
        propagate(x, "logic 3;clause a;clause a b;clause -c b;", 1, 0, false);
    }

    /** The order of the clauses matters when a conflict comes between. */
    private static void fixedInOrder() {
        ResolutionProver x = new ResolutionProver();
        propagate(x, "logic 3;clause -a;clause a b;clause -b;", 2, 3, true);
        propagate(x, "logic 3;clause -a;clause -b;clause a b;", 0, 3, true);
        propagate(x, "logic 3;clause a;clause -a;clause a b;clause -a c;", 7, 1, true);
        propagate(x, "logic 3;clause a b;clause -b;clause -a;", 0, 3, true);
    }

    private static void conflicts() {
        ResolutionProver x = new ResolutionProver();
        propagate(x, "logic 3;clause;", 0, 0, true);
        propagate(x, "logic 3;clause a;clause -a;", 1, 1, true);
        propagate(x, "logic 3;clause a b;clause a -b;clause -a b;clause -a -b;", 0, 0, false);
        propagate(x, "logic 3;clause a b;clause;clause c;", 4, 0, true);
    }

    private static void propagate(
            ResolutionProver x, String text, int isTrue, int isFalse, boolean isConflict) {
        Feed.load(x, text);
        CHECK.equal("fixedTrue of " + text, x.fixedTrue(), isTrue);
        CHECK.equal("fixedFalse of " + text, x.fixedFalse(), isFalse);
        CHECK.equal("hasConflict of " + text, x.hasConflict() ? 1 : 0, isConflict ? 1 : 0);
    }

    private static void wrongArguments() {
        ResolutionProver x = Feed.loaded("logic 3;clause a;clause -a;");
        for (int mask : new int[] {-1, 8, 4096, 9, Integer.MIN_VALUE, Integer.MAX_VALUE}) {
            CHECK.noArgument("isTrue", () -> x.isTrue(0, mask));
            CHECK.noArgument("falseClauses", () -> x.falseClauses(mask));
            CHECK.noArgument("bestFlip", () -> x.bestFlip(mask));
            CHECK.noArgument("isImplied", () -> x.isImplied(mask, 0));
            CHECK.noArgument("isImplied", () -> x.isImplied(0, mask));
        }
        CHECK.noArgument("isImplied", () -> x.isImplied(3, 2));
        for (int clause : new int[] {-1, 2, 60, 64, Integer.MIN_VALUE, Integer.MAX_VALUE}) {
            CHECK.noIndex("isTrue", () -> x.isTrue(clause, 0));
            CHECK.noIndex("isTrue, the first exception", () -> x.isTrue(clause, -1));
            CHECK.noIndex("isRedundant", () -> x.isRedundant(clause));
        }
    }
}
