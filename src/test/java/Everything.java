/** All that an object tells, in words, so that two objects can be compared. */
final class Everything {
    private static final int MOST_BYTES = 500;

    private Everything() {
    }

    /**
     * Also the states behind undo and in the slots, and what stands in the input buffer; the object
     * is of no use afterwards.
     */
    static String of(ResolutionProver x) {
        return "error " + x.parseError() + " at " + x.parseErrorPosition() + butParseError(x);
    }

    /** The same without the parse error, which a call of load or play sets even if it throws. */
    static String butParseError(ResolutionProver x) {
        StringBuilder text = new StringBuilder();
        text.append("\n now ").append(seen(x));
        text.append("\n written ").append(written(x));
        while (x.undoDepth() > 0) {
            x.undo();
            text.append("\n before ").append(state(x));
        }
        text.append("\n slot 0 ").append(slot(x, 0));
        text.append("\n slot 1 ").append(slot(x, 1));
        text.append("\n buffer ").append(buffer(x));
        return text.toString();
    }

    /** The state, and some of what follows from it. */
    private static String seen(ResolutionProver x) {
        return state(x) + " deepest " + x.deepestClause() + " models " + x.modelCount()
            + " fixed " + x.fixedTrue() + '/' + x.fixedFalse() + " next " + x.nextFirst() + '+'
            + x.nextSecond() + " changes " + x.undoDepth();
    }

    private static String written(ResolutionProver x) {
        StringBuilder text = new StringBuilder();
        for (int k = 0; x.outputByte(k) != ResolutionProver.NONE; k++) {
            text.append((char) x.outputByte(k));
        }
        return text.toString();
    }

    private static String slot(ResolutionProver x, int slot) {
        try {
            x.restore(slot);
        } catch (IllegalStateException e) {
            return "empty";
        }
        return state(x);
    }

    private static String state(ResolutionProver x) {
        StringBuilder text = new StringBuilder(Feed.state(x));
        text.append(" depths");
        for (int k = 0; k < x.clauseCount(); k++) {
            text.append(' ').append(x.depthOf(k));
        }
        return text.toString();
    }

    /** The number of bytes, and what a play of them answers. */
    private static String buffer(ResolutionProver x) {
        int length = bytes(x);
        String answer;
        try {
            answer = String.valueOf(x.play());
        } catch (IllegalArgumentException e) {
            answer = "error";
        }
        return length + " bytes, play " + answer + ' ' + x.parseError() + " at "
            + x.parseErrorPosition() + ' ' + state(x);
    }

    /** Counts the bytes of the input buffer, and leaves them there. */
    static int bytes(ResolutionProver x) {
        int longer = x.append(0, 0, 0, 0, 0);
        if (longer != ResolutionProver.NONE) {
            x.truncate(longer - 20);
            return longer - 20;
        }
        int length = MOST_BYTES;
        while (!x.truncate(length)) {
            length--;
        }
        return length;
    }
}
