/** Promises 1 to 7: a new object, the input buffer, load, play and the parse errors. */
public final class InputTest {
    private static final Check CHECK = new Check("InputTest");
    private static final int NONE = ResolutionProver.NONE;

    public static void main(String[] args) {
        newObject();
        append();
        truncate();
        load();
        loadKeepsOnFailure();
        play();
        playKeepsOnFailure();
        CHECK.end();
    }

    /** Promise 1. */
    private static void newObject() {
        ResolutionProver x = new ResolutionProver();
        CHECK.equal("NONE", NONE, -1);
        CHECK.equal("variableCount", x.variableCount(), 4);
        CHECK.equal("clauseCount", x.clauseCount(), 0);
        CHECK.equal("modelCount", x.modelCount(), 16);
        CHECK.equal("undoDepth", x.undoDepth(), 0);
        CHECK.equal("outputByte", x.outputByte(0), NONE);
        CHECK.equal("parseError", x.parseError(), 0);
        CHECK.equal("parseErrorPosition", x.parseErrorPosition(), NONE);
        CHECK.no("truncate of an empty buffer", x.truncate(1));
        CHECK.yes("truncate of an empty buffer", x.truncate(0));
        CHECK.noState("restore", () -> x.restore(0));
        CHECK.noState("restore", () -> x.restore(1));
        CHECK.noState("undo", x::undo);
    }

    /** Promise 2: also that the most significant byte comes first, in each of the parameters. */
    private static void append() {
        ResolutionProver x = new ResolutionProver();
        CHECK.equal("append", x.append(Feed.four("logi", 0), Feed.four("c 7 ", 0),
            Feed.four("; cl", 0), Feed.four("ause", 0), Feed.four(" g; ", 0)), 20);
        CHECK.equal("load", x.load(), 1);
        CHECK.equal("positiveOf", x.positiveOf(0), 64);
        for (int k = 1; k <= 25; k++) {
            CHECK.equal("append " + k, x.append(0x20202020, 0x20202020, 0x20202020, 0x20202020,
                0x20202020), 20 * k);
        }
        CHECK.equal("append 26", x.append(0, 0, 0, 0, 0), NONE);
        CHECK.equal("append 27", x.append(0, 0, 0, 0, 0), NONE);
        CHECK.no("truncate(501)", x.truncate(501));
        CHECK.yes("truncate(500)", x.truncate(500));
        CHECK.yes("truncate(481)", x.truncate(481));
        CHECK.equal("append to 481", x.append(0, 0, 0, 0, 0), NONE);
        CHECK.no("nothing is appended", x.truncate(482));
        CHECK.yes("truncate(480)", x.truncate(480));
        CHECK.equal("append to 480", x.append(0x20202020, 0x20202020, 0x20202020, 0x20202020,
            0x20202020), 500);
        CHECK.equal("play of 500 blanks", x.play(), 0);
        CHECK.equal("append behind play", x.append(-1, -1, -1, -1, -1), 20);
        CHECK.noArgument("a byte 255", x::play);
        CHECK.equal("parseErrorPosition", x.parseErrorPosition(), 0);
        CHECK.equal("parseError", x.parseError(), 1);
    }

    /** Promise 3. */
    private static void truncate() {
        ResolutionProver x = new ResolutionProver();
        x.append(Feed.four("redu", 0), Feed.four("ce;i", 0), Feed.four("nver", 0),
            Feed.four("t;$$", 0), 0);
        CHECK.no("truncate(-1)", x.truncate(-1));
        CHECK.no("truncate(least)", x.truncate(Integer.MIN_VALUE));
        CHECK.no("truncate(greatest)", x.truncate(Integer.MAX_VALUE));
        CHECK.no("truncate(21)", x.truncate(21));
        CHECK.yes("truncate(20)", x.truncate(20));
        CHECK.yes("truncate(14)", x.truncate(14));
        CHECK.no("truncate(15)", x.truncate(15));
        CHECK.equal("play", x.play(), 2);
        Feed.put(x, "reduce;$");
        CHECK.yes("truncate(0)", x.truncate(0));
        CHECK.equal("play", x.play(), 0);
    }

    /** Promises 4, 6 and 7. */
    private static void load() {
        ResolutionProver x = new ResolutionProver();
        x.addClause(1, 0);
        x.save(0);
        x.save(1);
        x.writeClause(0);
        CHECK.equal("load", Feed.load(x, "logic 12;clause a -l; clause;\n\tclause b b b;"), 3);
        CHECK.equal("parseError", x.parseError(), 0);
        CHECK.equal("parseErrorPosition", x.parseErrorPosition(), NONE);
        CHECK.equal("variableCount", x.variableCount(), 12);
        CHECK.equal("positiveOf", x.positiveOf(0), 1);
        CHECK.equal("negativeOf", x.negativeOf(0), 2048);
        CHECK.equal("emptyClause", x.emptyClause(), 1);
        CHECK.equal("positiveOf", x.positiveOf(2), 2);
        CHECK.equal("undoDepth", x.undoDepth(), 0);
        CHECK.noState("undo", x::undo);
        CHECK.noState("restore", () -> x.restore(0));
        CHECK.noState("restore", () -> x.restore(1));
        CHECK.equal("the output text stays", x.outputByte(0), 'a');
        CHECK.no("the buffer is empty", x.truncate(1));
        CHECK.equal("the least text", Feed.load(x, "logic1;"), 0);
        CHECK.equal("variableCount", x.variableCount(), 1);
        CHECK.equal("zeros in front", Feed.load(x, " logic\t0012\n; "), 0);
        CHECK.equal("variableCount", x.variableCount(), 12);
        CHECK.equal("all commands", Feed.load(x, "logic 3;clause a b;clause -a;resolve 0 1;"
            + "saturate 9;drop 2;negate a;invert;reduce;expect open;"), 2);
        CHECK.same("the state", Feed.state(x), "3 | 1/2 | 0/1");
    }

    private static void loadKeepsOnFailure() {
        ResolutionProver x = Feed.loaded("logic 3;clause a;");
        x.addClause(2, 0);
        x.addClause(4, 0);
        x.save(1);
        String state = Feed.state(x);
        Feed.put(x, "logic 5;clause a;clause b;expect refuted;");
        CHECK.noArgument("load", x::load);
        CHECK.equal("parseError", x.parseError(), 5);
        CHECK.equal("parseErrorPosition", x.parseErrorPosition(), 26);
        CHECK.same("the state", Feed.state(x), state);
        CHECK.no("the buffer is empty", x.truncate(1));
        CHECK.equal("undoDepth", x.undoDepth(), 2);
        CHECK.equal("restore", x.restore(1), 3);
        CHECK.noArgument("load of nothing", x::load);
        CHECK.equal("parseError", x.parseError(), 1);
        CHECK.equal("parseErrorPosition", x.parseErrorPosition(), 0);
        CHECK.equal("play of nothing", x.play(), 0);
        CHECK.equal("parseError", x.parseError(), 0);
        CHECK.equal("parseErrorPosition", x.parseErrorPosition(), NONE);
    }

    /** Promises 5, 6 and 7. */
    private static void play() {
        ResolutionProver x = Feed.loaded("logic 3;clause a b;clause -a;");
        x.save(0);
        String before = Feed.state(x);
        CHECK.equal("play", Feed.play(x, "resolve 1 0;expect clauses 3;drop 2;clause c;"), 4);
        CHECK.same("the state", Feed.state(x), "3 | 3/0 | 0/1 | 4/0");
        CHECK.equal("one change", x.undoDepth(), 1);
        CHECK.no("the slot stays", x.save(0));
        CHECK.no("the buffer is empty", x.truncate(1));
        CHECK.equal("undo", x.undo(), 0);
        CHECK.same("the state", Feed.state(x), before);
        CHECK.equal("no command", Feed.play(x, " \n\t"), 0);
        CHECK.equal("one change", x.undoDepth(), 1);
        CHECK.equal("commands that change nothing", Feed.play(x, "expect open;reduce;"), 2);
        CHECK.equal("one change", x.undoDepth(), 2);
        CHECK.equal("saturate without a step", Feed.play(x, "saturate 9;saturate 9;"), 2);
        CHECK.same("the state", Feed.state(x), before + " | 2/0 of 0+1 by 0");
        CHECK.equal("undo", x.undo(), 2);
    }

    private static void playKeepsOnFailure() {
        ResolutionProver x = Feed.loaded("logic 3;clause a b;clause -a;");
        x.resolve(0, 1);
        String state = Feed.state(x);
        Feed.put(x, "clause c;drop 2;negate a;logic 3;");
        CHECK.noArgument("play", x::play);
        CHECK.equal("parseError", x.parseError(), 1);
        CHECK.equal("parseErrorPosition", x.parseErrorPosition(), 25);
        CHECK.same("the state", Feed.state(x), state);
        CHECK.equal("undoDepth", x.undoDepth(), 1);
        CHECK.no("the buffer is empty", x.truncate(1));
        CHECK.equal("undo", x.undo(), 0);
    }
}
