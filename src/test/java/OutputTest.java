/** Promises 64 and 65: the output text. */
public final class OutputTest {
    private static final Check CHECK = new Check("OutputTest");
    private static final int NONE = ResolutionProver.NONE;

    public static void main(String[] args) {
        written();
        bytes();
        lastText();
        CHECK.end();
    }

    private static void written() {
        ResolutionProver x = Feed.loaded("logic 12;clause c -a b;clause -d;clause;"
            + "clause -a -b -c -d -e -f -g -h -i -j -k -l;clause l -k a;");
        CHECK.same("writeClause", Feed.written(x, 0), "-a b c");
        CHECK.same("writeClause", Feed.written(x, 1), "-d");
        CHECK.same("writeClause", Feed.written(x, 2), "#");
        CHECK.same("writeClause", Feed.written(x, 3), "-a -b -c -d -e -f -g -h -i -j -k -l");
        CHECK.same("writeClause", Feed.written(x, 4), "a -k l");
        CHECK.equal("the longest text", x.writeClause(3), 35);
    }

    private static void bytes() {
        ResolutionProver x = Feed.loaded("logic 4;clause -b d;");
        CHECK.equal("outputByte", x.outputByte(0), NONE);
        CHECK.equal("writeClause", x.writeClause(0), 4);
        CHECK.equal("outputByte(0)", x.outputByte(0), 45);
        CHECK.equal("outputByte(1)", x.outputByte(1), 98);
        CHECK.equal("outputByte(2)", x.outputByte(2), 32);
        CHECK.equal("outputByte(3)", x.outputByte(3), 100);
        CHECK.equal("outputByte(4)", x.outputByte(4), NONE);
        CHECK.equal("outputByte(-1)", x.outputByte(-1), NONE);
        CHECK.equal("outputByte(least)", x.outputByte(Integer.MIN_VALUE), NONE);
        CHECK.equal("outputByte(greatest)", x.outputByte(Integer.MAX_VALUE), NONE);
    }

    /** The text stays until another one is written; a call that throws writes none. */
    private static void lastText() {
        ResolutionProver x = Feed.loaded("logic 4;clause a b c d;clause -b;");
        x.writeClause(0);
        CHECK.noIndex("writeClause(2)", () -> x.writeClause(2));
        CHECK.noIndex("writeClause(-1)", () -> x.writeClause(-1));
        CHECK.equal("outputByte(6)", x.outputByte(6), 'd');
        x.negateVariable(0);
        x.reduce();
        CHECK.equal("outputByte(0)", x.outputByte(0), 'a');
        CHECK.equal("writeClause", x.writeClause(1), 2);
        CHECK.equal("outputByte(1)", x.outputByte(1), 'b');
        CHECK.equal("the longer text is gone", x.outputByte(2), NONE);
        Feed.load(x, "logic 1;");
        CHECK.equal("outputByte(1)", x.outputByte(1), 'b');
    }
}
