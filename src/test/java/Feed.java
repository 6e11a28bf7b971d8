/** Puts texts into the input buffer of a prover. */
final class Feed {
    private Feed() {
    }

    /** Appends the text to an empty buffer; each character is a byte. */
    static void put(ResolutionProver x, String text) {
        for (int start = 0; start < text.length(); start += 20) {
            x.append(four(text, start), four(text, start + 4), four(text, start + 8),
                four(text, start + 12), four(text, start + 16));
        }
        x.truncate(text.length());
    }

    static int four(String text, int start) {
        int word = 0;
        for (int k = start; k < start + 4; k++) {
            word = word << 8 | (k < text.length() ? text.charAt(k) & 255 : 0);
        }
        return word;
    }

    static ResolutionProver loaded(String text) {
        ResolutionProver x = new ResolutionProver();
        put(x, text);
        x.load();
        return x;
    }

    static int load(ResolutionProver x, String text) {
        put(x, text);
        return x.load();
    }

    static int play(ResolutionProver x, String text) {
        put(x, text);
        return x.play();
    }

    /** The state in words: the variables, and each clause with its parents. */
    static String state(ResolutionProver x) {
        StringBuilder text = new StringBuilder();
        text.append(x.variableCount());
        int count = x.clauseCount();
        for (int k = 0; k < count; k++) {
            text.append(" | ").append(x.positiveOf(k)).append('/').append(x.negativeOf(k));
            if (!x.isGiven(k)) {
                text.append(" of ").append(x.positiveParent(k)).append('+')
                    .append(x.negativeParent(k)).append(" by ").append(x.variableOf(k));
            }
        }
        return text.toString();
    }

    static String written(ResolutionProver x, int clause) {
        int length = x.writeClause(clause);
        StringBuilder text = new StringBuilder();
        for (int k = 0; k < length; k++) {
            text.append((char) x.outputByte(k));
        }
        return text.toString();
    }
}
