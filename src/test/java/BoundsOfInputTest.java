import java.util.function.Consumer;

/** The edges that promises 1 to 7 name: a new object, the input buffer, load, play, the error. */
public final class BoundsOfInputTest {
    private static final Check CHECK = new Check("BoundsOfInputTest");
    private static final int NONE = ResolutionProver.NONE;
    private static final int BLANKS = 0x20202020;
    private static final int MOST_BYTES = 500;

    public static void main(String[] args) {
        CHECK.runPromises(BoundsOfInputTest.class);
        CHECK.end();
    }

    private static void appendBlanks(ResolutionProver x, int times) {
        for (int k = 0; k < times; k++) {
            x.append(BLANKS, BLANKS, BLANKS, BLANKS, BLANKS);
        }
    }

    /** Twenty bytes, the same one everywhere. */
    private static int appendSame(ResolutionProver x, char sign) {
        int word = sign * 0x01010101;
        return x.append(word, word, word, word, word);
    }

    private static ResolutionProver withBytes(int length) {
        ResolutionProver x = new ResolutionProver();
        appendBlanks(x, (length + 19) / 20);
        x.truncate(length);
        return x;
    }

    /** The text with as many blanks before its last byte as make it so long. */
    private static String stretched(String text, int length) {
        int last = text.length() - 1;
        return text.substring(0, last) + " ".repeat(length - text.length()) + text.substring(last);
    }

    private static ResolutionProver workedWithoutBytes() {
        ResolutionProver x = Provers.worked();
        x.truncate(0);
        return x;
    }

    // ---- promise 1

    static void promise1ANewObjectIsThatOfLogic4() {
        CHECK.alike("a new object", ResolutionProver::new, () -> Feed.loaded("logic 4;"));
    }

    static void promise1ANewObjectHasFourVariables() {
        ResolutionProver x = new ResolutionProver();
        CHECK.equal("variableCount", x.variableCount(), 4);
        CHECK.equal("falseClauses(15)", x.falseClauses(15), 0);
        CHECK.noArgument("falseClauses(16)", () -> x.falseClauses(16));
        CHECK.equal("occurrences(3)", x.occurrences(3, true), 0);
        CHECK.noIndex("occurrences(4)", () -> x.occurrences(4, true));
        CHECK.equal("modelCount", x.modelCount(), 16);
    }

    static void promise1ANewObjectHasNoClauses() {
        ResolutionProver x = new ResolutionProver();
        CHECK.equal("clauseCount", x.clauseCount(), 0);
        CHECK.noIndex("positiveOf(0)", () -> x.positiveOf(0));
    }

    static void promise1ANewObjectHasAnEmptyBufferAndOutputText() {
        ResolutionProver x = new ResolutionProver();
        CHECK.no("truncate(1)", x.truncate(1));
        CHECK.yes("truncate(0)", x.truncate(0));
        CHECK.equal("play", x.play(), 0);
        CHECK.equal("outputByte(0)", x.outputByte(0), NONE);
    }

    static void promise1ANewObjectHasNoChangesAndEmptySlots() {
        ResolutionProver x = new ResolutionProver();
        CHECK.equal("undoDepth", x.undoDepth(), 0);
        CHECK.noState("undo", x::undo);
        CHECK.noState("restore(0)", () -> x.restore(0));
        CHECK.noState("restore(1)", () -> x.restore(1));
        CHECK.yes("save(0)", x.save(0));
        CHECK.yes("save(1)", x.save(1));
    }

    static void promise1ANewObjectSharesNothingWithAnotherOne() {
        String due = Everything.of(ResolutionProver::new);
        CHECK.same("beside another object", Everything.of(() -> {
            ResolutionProver other = new ResolutionProver();
            ResolutionProver x = new ResolutionProver();
            other.addClause(1, 0);
            other.save(0);
            other.writeClause(0);
            Feed.put(other, "logic 5");
            return x;
        }), due);
    }

    // ---- promise 2

    static void promise2AppendUpTo500Bytes() {
        ResolutionProver x = new ResolutionProver();
        for (int k = 1; k <= 25; k++) {
            CHECK.equal("append " + k, x.append(k, k, k, k, k), 20 * k);
        }
        CHECK.equal("append 26", x.append(0, 0, 0, 0, 0), NONE);
        CHECK.equal("append 27", x.append(0, 0, 0, 0, 0), NONE);
        CHECK.yes("truncate(500)", x.truncate(500));
        CHECK.no("truncate(501)", x.truncate(501));
    }

    static void promise2AppendTo480AndTo481Bytes() {
        for (int length = 460; length <= MOST_BYTES; length++) {
            ResolutionProver x = withBytes(length);
            boolean isShort = length <= 480;
            CHECK.equal("append to " + length, appendSame(x, '$'), isShort ? length + 20 : NONE);
            CHECK.equal("bytes", Everything.bytes(x), isShort ? length + 20 : length);
        }
    }

    static void promise2AppendThatReturnsNoneAppendsNothing() {
        ResolutionProver x = new ResolutionProver();
        Feed.put(x, stretched("reduce;invert;", 481));
        CHECK.equal("append to 481", appendSame(x, '$'), NONE);
        CHECK.no("truncate(482)", x.truncate(482));
        CHECK.yes("truncate(481)", x.truncate(481));
        CHECK.equal("play", x.play(), 2);
        Feed.put(x, stretched("reduce;invert;", MOST_BYTES));
        CHECK.equal("append to 500", appendSame(x, '$'), NONE);
        CHECK.equal("play", x.play(), 2);
    }

    /** One wrong byte among blanks: its place is the error position. */
    static void promise2AppendPutsTheMostSignificantByteFirst() {
        for (int place = 0; place < 20; place++) {
            int[] words = {BLANKS, BLANKS, BLANKS, BLANKS, BLANKS};
            words[place / 4] ^= 4 << 24 - place % 4 * 8;
            ResolutionProver x = new ResolutionProver();
            CHECK.equal("append", x.append(words[0], words[1], words[2], words[3], words[4]), 20);
            CHECK.noArgument("play", x::play);
            CHECK.equal("position of byte " + place, x.parseErrorPosition(), place);
        }
    }

    /** Bytes above 127 have the sign bit, and must not touch their neighbours. */
    static void promise2AppendOfEveryByteAtEveryPlace() {
        for (int value = 0; value < 256; value++) {
            ResolutionProver x = new ResolutionProver();
            boolean isBlank = value == 32 || value == 9 || value == 10;
            for (int place = 0; place < 4; place++) {
                int shift = 24 - 8 * place;
                int word = BLANKS & ~(255 << shift) | value << shift;
                x.append(word, BLANKS, BLANKS, BLANKS, BLANKS);
                int got = 0;
                try {
                    x.play();
                } catch (IllegalArgumentException e) {
                    got = x.parseError();
                }
                CHECK.equal("byte " + value + " at " + place, got, isBlank ? 0 : 1);
                CHECK.equal("byte " + value, x.parseErrorPosition(), isBlank ? NONE : place);
            }
        }
    }

    static void promise2AppendTakesAnyInt() {
        ResolutionProver x = new ResolutionProver();
        CHECK.equal("append", x.append(Integer.MIN_VALUE, Integer.MAX_VALUE, -1, 0, 1), 20);
        CHECK.equal("append", x.append(Integer.MAX_VALUE, Integer.MIN_VALUE, 0, -1, -2), 40);
        CHECK.noArgument("play", x::play);
        CHECK.equal("parseErrorPosition", x.parseErrorPosition(), 0);
        CHECK.equal("append", x.append(BLANKS, Integer.MIN_VALUE, 0, 0, 0), 20);
        CHECK.noArgument("play", x::play);
        CHECK.equal("parseErrorPosition", x.parseErrorPosition(), 4);
    }

    // ---- promise 3

    static void promise3TruncateOfAnEmptyBuffer() {
        ResolutionProver x = new ResolutionProver();
        CHECK.yes("truncate(0)", x.truncate(0));
        for (int length : Provers.outside(0, 0)) {
            CHECK.no("truncate(" + length + ")", x.truncate(length));
        }
        CHECK.equal("bytes", Everything.bytes(x), 0);
    }

    static void promise3TruncateUpToTheNumberOfBytes() {
        for (int length : new int[] {1, 19, 20, 21, 480, 499, 500}) {
            ResolutionProver x = withBytes(length);
            for (int outside : Provers.outside(0, length)) {
                CHECK.no("truncate(" + outside + ") of " + length, x.truncate(outside));
            }
            CHECK.equal("nothing changes", Everything.bytes(x), length);
            CHECK.yes("truncate(" + length + ")", x.truncate(length));
            CHECK.equal("bytes", Everything.bytes(x), length);
            CHECK.yes("truncate by one", x.truncate(length - 1));
            CHECK.equal("bytes", Everything.bytes(x), length - 1);
            CHECK.no("truncate(" + length + ")", x.truncate(length));
            CHECK.yes("truncate(0)", x.truncate(0));
            CHECK.no("truncate(1)", x.truncate(1));
        }
    }

    static void promise3TruncateKeepsWhatStandsBefore() {
        ResolutionProver x = new ResolutionProver();
        Feed.put(x, "reduce;$");
        CHECK.no("truncate(9)", x.truncate(9));
        CHECK.no("truncate(-1)", x.truncate(-1));
        CHECK.yes("truncate(8)", x.truncate(8));
        CHECK.noArgument("play", x::play);
        CHECK.equal("parseErrorPosition", x.parseErrorPosition(), 7);
        Feed.put(x, "reduce;$");
        CHECK.yes("truncate(7)", x.truncate(7));
        CHECK.equal("play", x.play(), 1);
    }

    static void promise3TruncateLetsAppendGoOnBehindTheNewEnd() {
        ResolutionProver x = new ResolutionProver();
        Feed.put(x, "inv$$$$$$$");
        CHECK.yes("truncate(3)", x.truncate(3));
        CHECK.equal("append", x.append(Feed.four("ert;", 0), BLANKS, BLANKS, BLANKS, BLANKS), 23);
        CHECK.equal("play", x.play(), 1);
    }

    static void promise3TruncateChangesTheBufferAlone() {
        for (int length : new int[] {-1, 0, 5, 1000}) {
            CHECK.alike("truncate(" + length + ")", Check.behind(Provers::worked, x -> {
                x.truncate(length);
                x.truncate(0);
            }), BoundsOfInputTest::workedWithoutBytes);
        }
    }

    // ---- promise 4

    static void promise4LoadReturnsTheNumberOfClauses() {
        ResolutionProver x = new ResolutionProver();
        CHECK.equal("no clause", Feed.load(x, "logic 1;"), 0);
        CHECK.equal("one clause", Feed.load(x, "logic 1;clause;"), 1);
        CHECK.equal("59 clauses", Feed.load(x, Provers.RING + "saturate 47;"), 59);
        CHECK.equal("clauseCount", x.clauseCount(), 59);
        CHECK.equal("60 clauses", Feed.load(x, Provers.RING + "saturate 48;"), 60);
        CHECK.equal("60 clauses", Feed.load(x, Provers.RING + "saturate 99;"), 60);
        CHECK.equal("clauseCount", x.clauseCount(), 60);
    }

    static void promise4LoadOf500Bytes() {
        ResolutionProver x = new ResolutionProver();
        Feed.put(x, stretched("logic 3;clause b;", MOST_BYTES));
        CHECK.no("truncate(501)", x.truncate(501));
        CHECK.equal("load", x.load(), 1);
        CHECK.equal("positiveOf", x.positiveOf(0), 2);
        Feed.put(x, stretched("logic 3;clause b", MOST_BYTES));
        CHECK.noArgument("load", x::load);
        CHECK.equal("parseErrorPosition", x.parseErrorPosition(), 500);
    }

    static void promise4LoadOfAnEmptyBuffer() {
        ResolutionProver x = new ResolutionProver();
        CHECK.noArgument("load", x::load);
        CHECK.equal("parseError", x.parseError(), 1);
        CHECK.equal("parseErrorPosition", x.parseErrorPosition(), 0);
    }

    static void promise4LoadEmptiesTheBuffer() {
        ResolutionProver x = withBytes(MOST_BYTES);
        CHECK.noArgument("load of blanks", x::load);
        CHECK.equal("parseErrorPosition", x.parseErrorPosition(), 500);
        CHECK.no("truncate(1)", x.truncate(1));
        CHECK.equal("append", appendSame(x, ' '), 20);
        x.truncate(0);
        Feed.load(x, "logic 4;");
        CHECK.no("truncate(1)", x.truncate(1));
    }

    static void promise4LoadLeavesNothingToUndoAndEmptySlots() {
        ResolutionProver x = Provers.withClauses(9);
        x.save(0);
        x.save(1);
        CHECK.equal("undoDepth", x.undoDepth(), 8);
        Feed.load(x, "logic 4;clause a;");
        CHECK.equal("undoDepth", x.undoDepth(), 0);
        CHECK.noState("undo", x::undo);
        CHECK.noState("restore(0)", () -> x.restore(0));
        CHECK.noState("restore(1)", () -> x.restore(1));
        CHECK.yes("save(0)", x.save(0));
        CHECK.yes("save(1)", x.save(1));
        for (int k = 1; k <= 9; k++) {
            x.reduce();
            CHECK.equal("changes since the load", x.undoDepth(), Math.min(k, 8));
        }
    }

    static void promise4LoadThatThrowsEmptiesTheBufferAndChangesNothingElse() {
        String[] texts = {"", "logic", "logic 0;", "logic 13;", "logic 2;clause c;", "clause a;",
            "logic 12;clause a;negate a;clause -a;", "logic 1;clause a -a;", "logic 4;drop 0;",
            "logic 1;expect refuted;", "logic 2;invert;reduce;saturate 1;expect models 3;",
            "logic 12;clause a;clause -a;resolve 0 1;$"};
        for (String text : texts) {
            throwsAndChangesNothingElse("load of " + text, text, ResolutionProver::load);
        }
    }

    private static void throwsAndChangesNothingElse(
            String what, String text, Consumer<ResolutionProver> call) {
        CHECK.alikeButParseError(what, Check.behind(BoundsOfInputTest::workedWithoutBytes, x -> {
            Feed.put(x, text);
            CHECK.noArgument(what, () -> call.accept(x));
        }), BoundsOfInputTest::workedWithoutBytes);
    }

    // ---- promise 5

    static void promise5PlayReturnsTheNumberOfCommands() {
        ResolutionProver x = new ResolutionProver();
        CHECK.equal("no byte", x.play(), 0);
        appendBlanks(x, 25);
        CHECK.equal("500 blanks", x.play(), 0);
        CHECK.equal("one command", Feed.play(x, "invert;"), 1);
        CHECK.equal("71 commands", Feed.play(x, "reduce;".repeat(71)), 71);
        CHECK.equal("71 commands", Feed.play(x, "clause;drop 0;".repeat(35) + "invert;"), 71);
        CHECK.equal("clauseCount", x.clauseCount(), 0);
    }

    static void promise5PlayOf500Bytes() {
        ResolutionProver x = new ResolutionProver();
        Feed.put(x, stretched("clause b;", MOST_BYTES));
        CHECK.equal("play", x.play(), 1);
        CHECK.equal("positiveOf", x.positiveOf(0), 2);
        Feed.put(x, stretched("drop 0", MOST_BYTES));
        CHECK.noArgument("play", x::play);
        CHECK.equal("parseErrorPosition", x.parseErrorPosition(), 500);
        Feed.put(x, stretched("drop 1", MOST_BYTES));
        CHECK.noArgument("play", x::play);
        CHECK.equal("parseErrorPosition", x.parseErrorPosition(), 499);
    }

    static void promise5PlayEmptiesTheBuffer() {
        ResolutionProver x = withBytes(MOST_BYTES);
        x.play();
        CHECK.no("truncate(1)", x.truncate(1));
        Feed.put(x, "$");
        CHECK.noArgument("play", x::play);
        CHECK.no("truncate(1)", x.truncate(1));
        CHECK.equal("append", appendSame(x, ' '), 20);
    }

    /** Also if there is no command, or none that alters a clause. */
    static void promise5PlayIsOneChange() {
        String[] scripts = {"", " \n", "reduce;", "invert;invert;", "expect open;", "saturate 9;",
            "clause a;clause b;drop 0;negate b;"};
        for (String script : scripts) {
            ResolutionProver x = new ResolutionProver();
            x.addClause(8, 4);
            Feed.play(x, script);
            CHECK.equal("changes behind " + script, x.undoDepth(), 2);
            CHECK.equal("undo", x.undo(), 1);
            CHECK.same("the state", Feed.state(x), "4 | 8/4");
        }
    }

    static void promise5PlayPushesTheOldestOf8ChangesOut() {
        ResolutionProver x = new ResolutionProver();
        for (int k = 1; k <= 8; k++) {
            x.addClause(k, 0);
        }
        CHECK.equal("undoDepth", x.undoDepth(), 8);
        Feed.play(x, "clause -a;clause -b;");
        CHECK.equal("undoDepth", x.undoDepth(), 8);
        for (int left = 7; left >= 0; left--) {
            CHECK.equal("undo", x.undo(), left);
        }
        CHECK.same("the state", Feed.state(x), "4 | 1/0");
    }

    static void promise5PlayThatThrowsEmptiesTheBufferAndChangesNothingElse() {
        String[] scripts = {"$", "logic 4;", "clause e;", "clause a -a;", "clause b a;", "drop 4;",
            "drop 6;", "resolve 0 0;", "saturate 0;", "saturate 100;", "expect refuted;",
            "negate a;invert;reduce;clause;expect models 1;", "drop 5;drop 4;drop 3;saturate 9",
            "clause;clause;", "resolve 5 0 0;"};
        for (String script : scripts) {
            throwsAndChangesNothingElse("play of " + script, script, ResolutionProver::play);
        }
    }

    static void promise5PlayKeepsTheSlotsAndTheOutputText() {
        ResolutionProver x = Provers.worked();
        x.truncate(0);
        Feed.play(x, "clause d -a;invert;");
        CHECK.yes("slot 0 is empty", x.save(0));
        CHECK.no("slot 1 is full", x.save(1));
        CHECK.equal("outputByte(0)", x.outputByte(0), 'a');
        CHECK.equal("outputByte(2)", x.outputByte(2), 'b');
    }

    // ---- promises 6 and 7

    static void promise6ParseErrorIs0WithoutACall() {
        CHECK.equal("parseError", new ResolutionProver().parseError(), 0);
    }

    static void promise6ParseErrorHasEachCode() {
        String[] scripts = {"reduce;", "reduce", "negate e;", "clause a -a;", "clause b;clause b;",
            "expect refuted;"};
        for (int code = 0; code < scripts.length; code++) {
            ResolutionProver x = new ResolutionProver();
            String text = "logic 4;" + scripts[code];
            Feed.put(x, text);
            fails("load of " + text, code > 0, x::load);
            CHECK.equal("code of " + text, x.parseError(), code);
            ResolutionProver y = new ResolutionProver();
            Feed.put(y, scripts[code]);
            fails("play of " + scripts[code], code > 0, y::play);
            CHECK.equal("code of " + scripts[code], y.parseError(), code);
        }
    }

    private static void fails(String what, boolean isDue, Runnable call) {
        if (isDue) {
            CHECK.noArgument(what, call);
        } else {
            call.run();
        }
    }

    static void promise6ParseErrorIsThatOfTheLatestCall() {
        ResolutionProver x = new ResolutionProver();
        Feed.put(x, "expect refuted;");
        CHECK.noArgument("play", x::play);
        CHECK.equal("parseError", x.parseError(), 5);
        CHECK.noArgument("load", x::load);
        CHECK.equal("parseError", x.parseError(), 1);
        x.play();
        CHECK.equal("parseError", x.parseError(), 0);
        Feed.put(x, "logic 13;");
        CHECK.noArgument("load", x::load);
        CHECK.equal("parseError", x.parseError(), 2);
        Feed.load(x, "logic 12;");
        CHECK.equal("parseError", x.parseError(), 0);
    }

    static void promise6ParseErrorStaysThroughOtherCalls() {
        ResolutionProver x = new ResolutionProver();
        Feed.put(x, "  clause a -a;");
        CHECK.noArgument("play", x::play);
        x.addClause(1, 0);
        CHECK.noState("addClause", () -> x.addClause(1, 0));
        x.undo();
        x.save(0);
        x.restore(0);
        x.append(0, 0, 0, 0, 0);
        x.truncate(3);
        CHECK.equal("parseError", x.parseError(), 3);
        CHECK.equal("parseErrorPosition", x.parseErrorPosition(), 12);
    }

    static void promise7ParseErrorPositionIsNoneWithoutAnError() {
        ResolutionProver x = new ResolutionProver();
        CHECK.equal("parseErrorPosition", x.parseErrorPosition(), NONE);
        Feed.put(x, "$");
        CHECK.noArgument("play", x::play);
        CHECK.equal("parseErrorPosition", x.parseErrorPosition(), 0);
        x.play();
        CHECK.equal("parseErrorPosition", x.parseErrorPosition(), NONE);
        CHECK.noArgument("load", x::load);
        CHECK.equal("parseErrorPosition", x.parseErrorPosition(), 0);
        Feed.load(x, "logic 4;");
        CHECK.equal("parseErrorPosition", x.parseErrorPosition(), NONE);
    }

    static void promise7ParseErrorPositionFrom0To500() {
        for (int place : new int[] {0, 1, 127, 128, 255, 256, 498, 499}) {
            ResolutionProver x = new ResolutionProver();
            Feed.put(x, " ".repeat(place) + "$" + " ".repeat(MOST_BYTES - 1 - place));
            CHECK.noArgument("play", x::play);
            CHECK.equal("parseErrorPosition", x.parseErrorPosition(), place);
        }
        for (int length : new int[] {0, 1, 499, 500}) {
            ResolutionProver x = withBytes(length);
            CHECK.noArgument("load of blanks", x::load);
            CHECK.equal("parseErrorPosition", x.parseErrorPosition(), length);
        }
    }
}
