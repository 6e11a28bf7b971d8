import java.util.function.Supplier;

/**
 * All that an object tells, in words, so that two objects can be compared. An object is used for
 * 512 calls at most, and some of what it tells can only be asked once; so a maker makes it anew,
 * always in the same way, for each part.
 */
final class Everything {
    private static final int MOST_BYTES = 500;

    private Everything() {
    }

    /** Also the states behind undo and in the slots, and what stands in the input buffer. */
    static String of(Supplier<ResolutionProver> maker) {
        ResolutionProver x = maker.get();
        return "error " + x.parseError() + " at " + x.parseErrorPosition() + butParseError(maker);
    }

    /** The same without the parse error, which a call of load or play sets even if it throws. */
    static String butParseError(Supplier<ResolutionProver> maker) {
        ResolutionProver x = maker.get();
        int changes = x.undoDepth();
        StringBuilder text = new StringBuilder();
        text.append("\n now ").append(state(x)).append(conclusions(x));
        text.append("\n written ").append(written(maker.get()));
        text.append("\n changes ").append(changes);
        for (int back = 1; back <= changes; back++) {
            text.append("\n before ").append(stateBefore(maker.get(), back));
        }
        text.append("\n slot 0 ").append(slot(maker.get(), 0));
        text.append("\n slot 1 ").append(slot(maker.get(), 1));
        text.append("\n buffer ").append(buffer(maker.get()));
        return text.toString();
    }

    /** Some of what follows from a state. */
    private static String conclusions(ResolutionProver x) {
        return " deepest " + x.deepestClause() + " models " + x.modelCount() + " fixed "
            + x.fixedTrue() + '/' + x.fixedFalse() + " next " + x.nextFirst() + '+'
            + x.nextSecond();
    }

    private static String written(ResolutionProver x) {
        StringBuilder text = new StringBuilder();
        for (int k = 0; x.outputByte(k) != ResolutionProver.NONE; k++) {
            text.append((char) x.outputByte(k));
        }
        return text.toString();
    }

    private static String stateBefore(ResolutionProver x, int changes) {
        for (int k = 0; k < changes; k++) {
            x.undo();
        }
        return state(x);
    }

    private static String slot(ResolutionProver x, int slot) {
        try {
            x.restore(slot);
        } catch (IllegalStateException e) {
            return "empty";
        }
        return state(x);
    }

    private static String state(ResolutionProver x) {
        StringBuilder text = new StringBuilder(Feed.state(x));
        int count = x.clauseCount();
        text.append(" depths");
        for (int k = 0; k < count; k++) {
            text.append(' ').append(x.depthOf(k));
        }
        return text.toString();
    }

    /** The number of bytes, and what a play of them answers. */
    private static String buffer(ResolutionProver x) {
        int length = bytes(x);
        String answer;
        try {
            answer = String.valueOf(x.play());
        } catch (IllegalArgumentException e) {
            answer = "error";
        }
        return length + " bytes, play " + answer + ' ' + x.parseError() + " at "
            + x.parseErrorPosition() + ' ' + state(x);
    }

    /** Counts the bytes of the input buffer, and leaves them there. */
    static int bytes(ResolutionProver x) {
        int longer = x.append(0, 0, 0, 0, 0);
        if (longer != ResolutionProver.NONE) {
            x.truncate(longer - 20);
            return longer - 20;
        }
        int length = MOST_BYTES;
        while (!x.truncate(length)) {
            length--;
        }
        return length;
    }
}
