/** The edges that promises 64 and 65 name: the output text. */
public final class BoundsOfOutputTest {
    private static final Check CHECK = new Check("BoundsOfOutputTest");
    private static final Edges EDGES = new Edges(CHECK);
    private static final int NONE = ResolutionProver.NONE;

    public static void main(String[] args) {
        CHECK.runPromises(BoundsOfOutputTest.class);
        CHECK.end();
    }

    static void promise64WriteClauseOfTheNumbersOfAllClauses() {
        EDGES.clauseNumbers("writeClause", ResolutionProver::writeClause);
        ResolutionProver x = Provers.withClauses(60);
        CHECK.same("the first of 60", Feed.written(x, 0), "a");
        CHECK.same("the last of 60", Feed.written(x, 59), "c d e f");
    }

    static void promise64WriteClauseOf1To35Bytes() {
        ResolutionProver x = Provers.withVariables(12);
        for (int size = 1; size <= 12; size++) {
            int part = (1 << size) - 1;
            CHECK.equal("positive", x.writeClause(x.addClause(part, 0)), 2 * size - 1);
            CHECK.equal("negative", x.writeClause(x.addClause(0, part)), 3 * size - 1);
        }
        CHECK.equal("the empty clause", x.writeClause(x.addClause(0, 0)), 1);
        CHECK.same("the empty clause", Feed.written(x, 24), "#");
        CHECK.same("the shortest", Feed.written(x, 0), "a");
        CHECK.same("all positive", Feed.written(x, 22), "a b c d e f g h i j k l");
        CHECK.same("the longest", Feed.written(x, 23), "-a -b -c -d -e -f -g -h -i -j -k -l");
    }

    static void promise64WriteClauseOfTheFirstAndTheLastVariable() {
        ResolutionProver x = Feed.loaded("logic 12;clause l;clause -l;clause a -l;clause -a l;");
        CHECK.same("l", Feed.written(x, 0), "l");
        CHECK.same("-l", Feed.written(x, 1), "-l");
        CHECK.same("a -l", Feed.written(x, 2), "a -l");
        CHECK.same("-a l", Feed.written(x, 3), "-a l");
        CHECK.same("of one variable", Feed.written(Feed.loaded("logic 1;clause -a;"), 0), "-a");
    }

    static void promise64WriteClauseThatThrowsKeepsTheText() {
        for (int clause : Provers.outside(0, 5)) {
            ResolutionProver x = Provers.worked();
            CHECK.noIndex("writeClause(" + clause + ")", () -> x.writeClause(clause));
            CHECK.equal("outputByte(0)", x.outputByte(0), 'a');
            CHECK.equal("outputByte(2)", x.outputByte(2), 'b');
            CHECK.equal("outputByte(3)", x.outputByte(3), NONE);
        }
    }

    static void promise64WriteClauseIsNoChange() {
        CHECK.leavesAll("writeClause", Provers::worked, x -> {
            x.writeClause(5);
            x.writeClause(0);
        });
    }

    static void promise65OutputByteWithoutAText() {
        ResolutionProver x = new ResolutionProver();
        CHECK.equal("outputByte(0)", x.outputByte(0), NONE);
        for (int index : Provers.outside(0, 34)) {
            CHECK.equal("outputByte(" + index + ")", x.outputByte(index), NONE);
        }
        CHECK.noIndex("writeClause(0)", () -> x.writeClause(0));
        CHECK.equal("outputByte(0)", x.outputByte(0), NONE);
    }

    static void promise65OutputByteOfAnyInt() {
        ResolutionProver x = Feed.loaded("logic 12;clause;clause -b d;"
            + "clause -a -b -c -d -e -f -g -h -i -j -k -l;");
        int[] lengths = {1, 4, 35};
        int[] first = {'#', '-', '-'};
        int[] last = {'#', 'd', 'l'};
        for (int clause = 0; clause < 3; clause++) {
            int length = x.writeClause(clause);
            CHECK.equal("writeClause", length, lengths[clause]);
            CHECK.equal("the first byte", x.outputByte(0), first[clause]);
            CHECK.equal("the last byte", x.outputByte(length - 1), last[clause]);
            for (int index : Provers.outside(0, length - 1)) {
                CHECK.equal("outputByte(" + index + ")", x.outputByte(index), NONE);
            }
        }
    }

    static void promise65OutputByteOfAShorterTextThatFollows() {
        ResolutionProver x = Feed.loaded("logic 12;clause;clause -a -b -c -d -e -f -g -h -i -j;");
        x.writeClause(1);
        CHECK.equal("writeClause", x.writeClause(0), 1);
        CHECK.equal("outputByte(0)", x.outputByte(0), '#');
        CHECK.equal("outputByte(1)", x.outputByte(1), NONE);
        CHECK.equal("outputByte(28)", x.outputByte(28), NONE);
    }

    /** It is the text that was written, also if the clause is another one or gone. */
    static void promise65OutputByteStaysUntilAnotherTextIsWritten() {
        ResolutionProver x = new ResolutionProver();
        x.addClause(0, 8);
        x.writeClause(0);
        x.negateVariable(3);
        CHECK.equal("behind negateVariable", x.outputByte(0), '-');
        x.dropClause(0);
        CHECK.equal("behind dropClause", x.outputByte(1), 'd');
        x.undo();
        x.undo();
        CHECK.equal("behind undo", x.outputByte(1), 'd');
        x.save(0);
        x.restore(0);
        CHECK.equal("behind restore", x.outputByte(1), 'd');
        Feed.load(x, "logic 1;");
        CHECK.equal("behind load", x.outputByte(1), 'd');
        Feed.put(x, "$");
        CHECK.noArgument("play", x::play);
        CHECK.equal("behind play", x.outputByte(1), 'd');
        CHECK.equal("behind play", x.outputByte(2), NONE);
    }
}
