/** The edges of the text format and of the five error codes, of which promises 4 to 7 tell. */
public final class BoundsOfTextTest {
    private static final Check CHECK = new Check("BoundsOfTextTest");
    private static final int NONE = ResolutionProver.NONE;

    public static void main(String[] args) {
        CHECK.runPromises(BoundsOfTextTest.class);
        CHECK.end();
    }

    private static void loads(String text, int code, int position) {
        ResolutionProver x = new ResolutionProver();
        Feed.put(x, text);
        due(x, "load of \"" + text + "\"", x::load, code, position);
    }

    private static void plays(ResolutionProver x, String script, int code, int position) {
        Feed.put(x, script);
        due(x, "play of \"" + script + "\"", x::play, code, position);
    }

    /** Plays on clauses a b, -a, b (a resolvent of the two) and -b c of four variables. */
    private static void plays(String script, int code, int position) {
        plays(Feed.loaded("logic 4;clause a b;clause -a;resolve 0 1;clause -b c;"), script, code,
            position);
    }

    private static void due(
            ResolutionProver x, String what, Runnable call, int code, int position) {
        if (code == 0) {
            passes(what, call);
        } else {
            CHECK.noArgument(what, call);
        }
        CHECK.equal("code of " + what, x.parseError(), code);
        CHECK.equal("position of " + what, x.parseErrorPosition(), position);
    }

    private static void passes(String what, Runnable call) {
        try {
            call.run();
        } catch (IllegalArgumentException e) {
            CHECK.tell(what + " threw " + e);
        }
    }

    private static void fits(String script) {
        plays(script, 0, NONE);
    }

    // ---- tokens

    static void promise4LoadTakesBlanksOfThreeKindsAlone() {
        for (int value = 0; value < 256; value++) {
            boolean isBlank = value == 32 || value == 9 || value == 10;
            boolean isLetter = value >= 'a' && value <= 'z';
            String text = "logic 4;negate" + (char) value + "a;";
            loads(text, isBlank ? 0 : 1, isBlank ? NONE : isLetter ? 8 : 14);
        }
    }

    static void promise4LoadTakesTheLettersOfTwelveVariables() {
        for (int value = 0; value < 256; value++) {
            String text = "logic 12;negate " + (char) value + ";";
            boolean isVariable = value >= 'a' && value <= 'l';
            boolean isOther = value >= 'm' && value <= 'z';
            boolean isBlank = value == 32 || value == 9 || value == 10;
            loads(text, isVariable ? 0 : isOther ? 2 : 1, isVariable ? NONE : isBlank ? 17 : 16);
        }
    }

    static void promise4LoadTakesTheDigits0To9() {
        for (int value = 0; value < 256; value++) {
            boolean isDigit = value >= '0' && value <= '9';
            boolean isDue = value == '0';
            boolean isBlank = value == 32 || value == 9 || value == 10;
            String text = "logic 4;expect clauses " + (char) value + ";";
            int position = isDue ? NONE : isDigit ? 8 : isBlank ? 24 : 23;
            loads(text, isDue ? 0 : isDigit ? 5 : 1, position);
        }
    }

    static void promise4LoadTakesTheLongestRunAsAToken() {
        loads("logic4;clause a-b c;expect clauses1;expect size0 3;", 0, NONE);
        loads("logic 1 2;", 1, 8);
        loads("logic 12;", 0, NONE);
        loads("log ic 4;", 1, 0);
        loads("logicc 4;", 1, 0);
        loads("logi 4;", 1, 0);
        loads("logic 4;clause a b;", 0, NONE);
        loads("logic 4;clause ab;", 1, 15);
        loads("logic 4;clausea;", 1, 8);
        loads("logic 4;claus a;", 1, 8);
        loads("logic 4;clauses a;", 1, 8);
        loads("logic 4;expect clausess 0;", 1, 15);
        loads("logic 4;expect clause 0;", 1, 15);
        loads("logic 4;4reduce;", 1, 8);
        loads("logic 4reduce;", 1, 7);
    }

    static void promise4LoadNeedsTheHeader() {
        loads("clause a;", 1, 0);
        loads("logic;", 1, 5);
        loads("logic 4", 1, 7);
        loads("logic 4:", 1, 7);
        loads("logic four;", 1, 6);
        loads("logic -4;", 1, 6);
        loads("logic 4;logic 4;", 1, 8);
        plays("logic 4;", 1, 0);
        loads("LOGIC 4;", 1, 0);
    }

    /** Each letter of a word counts: also the first and the last one. */
    static void promise4LoadTakesEachWordWhole() {
        String[] texts = {"logic 4;", "logic 4;clause a;", "logic 4;clause;resolve 0 0;",
            "logic 4;saturate 9;", "logic 4;clause;drop 0;", "logic 4;negate a;",
            "logic 4;invert;", "logic 4;reduce;", "logic 4;expect clauses 0;",
            "logic 4;expect models 16;", "logic 4;clause;expect refuted;", "logic 4;expect open;",
            "logic 4;clause;expect implied;", "logic 4;clause a;expect fixed a;",
            "logic 4;expect subsumed 0;", "logic 4;clause;expect size 0 0;",
            "logic 4;clause;expect depth 0 0;"};
        for (String text : texts) {
            for (int place = 0; place < text.length(); place++) {
                loadsWithAnotherLetter(text, place);
            }
        }
    }

    private static void loadsWithAnotherLetter(String text, int place) {
        int start = place;
        while (start > 0 && Character.isLetter(text.charAt(start - 1))) {
            start--;
        }
        boolean isLetter = Character.isLetter(text.charAt(place));
        boolean isWord = isLetter
            && (start < place || Character.isLetter(text.charAt(place + 1)));
        if (isWord) {
            String before = text.substring(0, place);
            String behind = text.substring(place + 1);
            loads(before + (char) (text.charAt(place) + 1) + behind, 1, start);
            loads(before + Character.toUpperCase(text.charAt(place)) + behind, 1, start);
        }
    }

    // ---- numbers

    static void promise4LoadOf1To12Variables() {
        loads("logic 0;", 2, 6);
        loads("logic 1;", 0, NONE);
        loads("logic 12;", 0, NONE);
        loads("logic 13;", 2, 6);
        loads("logic 99;", 2, 6);
        loads("logic 9999;", 2, 6);
        loads("logic 0000;", 2, 6);
        loads("logic 0001;", 0, NONE);
        loads("logic 0012;", 0, NONE);
        loads("logic 00001;", 2, 6);
        loads("logic 00012;", 2, 6);
        loads("logic 4294967300;", 2, 6);
    }

    static void promise5PlayOf1To99Steps() {
        plays("saturate 0;", 2, 9);
        fits("saturate 1;");
        fits("saturate 99;");
        plays("saturate 100;", 2, 9);
        plays("saturate 0000;", 2, 9);
        fits("saturate 0001;");
        fits("saturate 0099;");
        plays("saturate 00001;", 2, 9);
        plays("saturate 00099;", 2, 9);
        plays("saturate 0100;", 2, 9);
        plays("saturate 4294967297;", 2, 9);
        plays("saturate -1;", 1, 9);
    }

    static void promise5PlayOfSaturateMakesSoManySteps() {
        ResolutionProver x = Feed.loaded(Provers.RING);
        plays(x, "saturate 1;expect clauses 13;saturate 2;expect clauses 15;", 0, NONE);
        plays(x, "saturate 44;expect clauses 59;saturate 1;expect clauses 60;", 0, NONE);
        plays(x, "saturate 1;saturate 99;expect clauses 60;", 0, NONE);
    }

    static void promise5PlayOfSaturateMayMakeNoStep() {
        ResolutionProver x = new ResolutionProver();
        plays(x, "saturate 1;expect clauses 0;", 0, NONE);
        plays(x, "clause a;saturate 99;expect clauses 1;", 0, NONE);
        plays(x, "clause -a;clause;saturate 99;expect clauses 3;", 0, NONE);
    }

    static void promise5PlayOfAValueFrom0To9999() {
        plays("expect models 0;", 5, 0);
        plays("expect models 9999;", 5, 0);
        plays("expect models 10000;", 2, 14);
        plays("expect clauses 0000;", 5, 0);
        plays("expect clauses 00000;", 2, 15);
        fits("expect clauses 0004;");
        plays("expect clauses 00004;", 2, 15);
        plays("expect clauses 4294967300;", 2, 15);
        plays("expect clauses 18446744073709551620;", 2, 15);
        plays("expect clauses -4;", 1, 15);
        plays("expect subsumed 9999;", 5, 0);
        plays("expect subsumed 10000;", 2, 16);
        plays("expect size 0 9999;", 5, 0);
        plays("expect size 0 10000;", 2, 14);
        plays("expect depth 0 9999;", 5, 0);
        plays("expect depth 0 10000;", 2, 15);
        plays("expect depth 0 0000000000000000000000000000000000000000;", 2, 15);
    }

    static void promise5PlayOfTheNumberOfAClause() {
        plays("drop 3;", 0, NONE);
        plays("drop 4;", 2, 5);
        plays("drop 0003;", 0, NONE);
        plays("drop 00003;", 2, 5);
        plays("drop 4294967299;", 2, 5);
        plays("resolve 0 3;", 0, NONE);
        plays("resolve 3 0;", 0, NONE);
        plays("resolve 4 0;", 2, 8);
        plays("resolve 0 4;", 2, 10);
        plays("resolve 9999 9999;", 2, 8);
        plays("resolve 00000 3;", 2, 8);
        plays("resolve 0 00003;", 2, 10);
        plays("expect size 3 2;", 0, NONE);
        plays("expect size 4 2;", 2, 12);
        plays("expect depth 3 0;", 0, NONE);
        plays("expect depth 4 0;", 2, 13);
    }

    static void promise5PlayOfTheNumberOfAClauseWithoutClauses() {
        for (String command : new String[] {"drop 0;", "resolve 0 0;", "expect size 0 0;",
            "expect depth 0 0;"}) {
            int position = command.indexOf('0');
            plays(new ResolutionProver(), command, 2, position);
            plays(new ResolutionProver(), "clause;drop 0;" + command, 2, 14 + position);
        }
    }

    static void promise5PlayOfTheNumberOfAClauseWith60Clauses() {
        plays(Provers.ofRing(48), "expect size 59 2;", 0, NONE);
        plays(Provers.ofRing(48), "expect size 60 2;", 2, 12);
        plays(Provers.ofRing(48), "drop 60;", 2, 5);
        plays(Provers.ofRing(48), "drop 59;", 0, NONE);
        plays(Provers.ofRing(48), "drop 59;drop 59;", 2, 13);
        plays(Provers.ofRing(48), "drop 59;expect depth 59 9;", 2, 21);
    }

    // ---- error code 1

    static void promise6ParseError1ForATokenThatIsNotAllowed() {
        plays(";", 1, 0);
        plays("-", 1, 0);
        plays("7", 1, 0);
        plays("77777", 1, 0);
        plays("a;", 1, 0);
        plays("reduce 3;", 1, 7);
        plays("invert a;", 1, 7);
        plays("reduce;;", 1, 7);
        plays("negate -a;", 1, 7);
        plays("negate 0;", 1, 7);
        plays("negate;", 1, 6);
        plays("negate a b;", 1, 9);
        plays("drop a;", 1, 5);
        plays("drop;", 1, 4);
        plays("drop 3 3;", 1, 7);
        plays("resolve 0;", 1, 9);
        plays("resolve 0-3;", 1, 9);
        plays("resolve 0 3 3;", 1, 12);
        plays("saturate a;", 1, 9);
        plays("saturate 9 9;", 1, 11);
        plays("expect;", 1, 6);
        plays("expect sizes 0 2;", 1, 7);
        plays("expect size 0;", 1, 13);
        plays("expect open 0;", 1, 12);
        plays("expect fixed;", 1, 12);
        plays("expect fixed - -a;", 1, 15);
        plays("expect fixed b b;", 1, 15);
        plays("clause c 00000;", 1, 9);
        plays("clause c, d;", 1, 8);
        plays("clause c - ;", 1, 11);
        plays("clause c --d;", 1, 10);
    }

    static void promise6ParseError1ForAWordOfSeveralLettersAsAVariable() {
        plays("clause ab;", 1, 7);
        plays("clause ee;", 1, 7);
        plays("clause c -dd;", 1, 10);
        plays("clause d clause c;", 1, 9);
        plays("negate aa;", 1, 7);
        plays("negate zz;", 1, 7);
        plays("expect implied ab;", 1, 15);
        plays("expect fixed bb;", 1, 13);
        plays("clause -a bb;", 1, 10);
        plays("clause d", 1, 8);
    }

    static void promise6ParseError1IfTheTextEndsTooEarly() {
        loads("", 1, 0);
        String[] texts = {"logic", "logic 4", "logic 4;clause", "logic 4;clause d",
            "logic 4;clause d -", "logic 4;resolve", "logic 4;clause;resolve 0",
            "logic 4;clause a;clause -a;resolve 0 1", "logic 4;saturate", "logic 4;saturate 9",
            "logic 4;drop", "logic 4;clause;drop 0", "logic 4;negate", "logic 4;negate d",
            "logic 4;invert", "logic 4;reduce", "logic 4;expect", "logic 4;expect clauses",
            "logic 4;expect clauses 0", "logic 4;expect models", "logic 4;expect models 16",
            "logic 4;expect open", "logic 4;clause;expect refuted", "logic 4;clause;expect implied",
            "logic 4;clause a;expect implied a", "logic 4;clause a;expect implied a -",
            "logic 4;expect fixed", "logic 4;expect fixed -", "logic 4;clause a;expect fixed a",
            "logic 4;expect subsumed", "logic 4;expect subsumed 0", "logic 4;clause;expect size",
            "logic 4;clause;expect size 0", "logic 4;clause;expect size 0 0",
            "logic 4;clause;expect depth", "logic 4;clause;expect depth 0",
            "logic 4;clause;expect depth 0 0"};
        for (String text : texts) {
            loads(text, 1, text.length());
            loads(text + " ", 1, text.length() + 1);
            loads(text + " \t\n  ", 1, text.length() + 5);
        }
    }

    /** The text may end behind each semicolon, and behind none of its other bytes. */
    static void promise7ParseErrorPositionOfATextThatIsCutAnywhere() {
        String text = "logic 4; clause a b ;clause -a c;clause -d;resolve 0 1;saturate 9;"
            + "negate d;invert;expect fixed -d;";
        int wordStart = 0;
        for (int length = 1; length <= text.length(); length++) {
            char last = text.charAt(length - 1);
            boolean isInWord = Character.isLetter(last) && length < text.length()
                && Character.isLetter(text.charAt(length));
            if (length > 1 && !Character.isLetter(text.charAt(length - 2))) {
                wordStart = length - 1;
            }
            String cut = text.substring(0, length);
            boolean isWhole = cut.trim().endsWith(";");
            loads(cut, isWhole ? 0 : 1, isWhole ? NONE : isInWord ? wordStart : length);
        }
    }

    // ---- error code 2

    static void promise6ParseError2ForALetterThatIsNoVariable() {
        loads("logic 1;negate a;", 0, NONE);
        loads("logic 1;negate b;", 2, 15);
        loads("logic 1;clause a;", 0, NONE);
        loads("logic 1;clause b;", 2, 15);
        loads("logic 1;clause -b;", 2, 16);
        loads("logic 11;clause k;", 0, NONE);
        loads("logic 11;clause l;", 2, 16);
        loads("logic 12;clause l;", 0, NONE);
        loads("logic 12;clause m;", 2, 16);
        loads("logic 12;clause z;", 2, 16);
        loads("logic 12;negate l;", 0, NONE);
        loads("logic 12;negate m;", 2, 16);
        loads("logic 12;clause l;expect fixed l;", 0, NONE);
        loads("logic 12;expect fixed m;", 2, 22);
        loads("logic 12;clause -l;expect implied -l;", 0, NONE);
        loads("logic 12;clause -l;expect implied -l m;", 2, 37);
    }

    static void promise6ParseError2InTheVariablesOfTheState() {
        plays(Provers.withVariables(1), "clause a;", 0, NONE);
        plays(Provers.withVariables(1), "clause b;", 2, 7);
        plays(new ResolutionProver(), "clause d;", 0, NONE);
        plays(new ResolutionProver(), "clause e;", 2, 7);
    }

    // ---- error code 3

    static void promise6ParseError3ForTheLetterOfAnOppositeLiteral() {
        plays("clause a -a;", 3, 10);
        plays("clause -a a;", 3, 10);
        plays("clause a - \n a;", 3, 13);
        plays("clause a b c d -d;", 3, 16);
        plays("clause a b -c d c;", 3, 16);
        loads("logic 12;clause a -l a -b l;", 3, 26);
        plays("expect implied a -a;", 3, 18);
        plays("clause a;clause -a;", 4, 9);
        plays("clause d;clause -d;", 0, NONE);
        plays("clause a -a", 3, 10);
        plays("clause a -e;", 2, 10);
        plays("clause a -aa;", 1, 10);
    }

    static void promise4LoadTakesTheSameLiteralSeveralTimes() {
        ResolutionProver x = new ResolutionProver();
        plays(x, "clause a a;clause -b -b -b;expect implied a a a;", 0, NONE);
        CHECK.equal("sizeOf(0)", x.sizeOf(0), 1);
        CHECK.equal("sizeOf(1)", x.sizeOf(1), 1);
        plays(x, "clause" + " c".repeat(246) + ";", 0, NONE);
        CHECK.equal("positiveOf(2)", x.positiveOf(2), 4);
        plays(x, "clause c c;", 4, 0);
    }

    // ---- error code 4

    static void promise6ParseError4ForTheWordClauseWith60Clauses() {
        plays(Provers.ofRing(47), "clause;", 0, NONE);
        plays(Provers.ofRing(48), "clause;", 4, 0);
        plays(Provers.ofRing(47), "clause a b;clause c d;", 4, 11);
        loads(Provers.RING + "saturate 47;clause;", 0, NONE);
        int end = Provers.RING.length() + 12;
        loads(Provers.RING + "saturate 48;clause;", 4, end);
    }

    /** What follows is not read: the error is found at once. */
    static void promise6ParseError4OfAFullStateIsFoundAtOnce() {
        String[] scripts = {"clause", "clause -", "clause $", "clause z;", "clause a -a;",
            "clause aa;", "clause 00000;", "clause -a b;"};
        for (String script : scripts) {
            plays(Provers.ofRing(48), script, 4, 0);
            plays(Provers.ofRing(48), " expect open;" + script, 4, 13);
        }
        plays(Provers.ofRing(48), "clauses;", 1, 0);
        plays(Provers.ofRing(48), "expect clauses 60;", 0, NONE);
    }

    static void promise6ParseError4ForAClauseThatExists() {
        plays("clause b a;", 4, 0);
        plays("clause a b a;", 4, 0);
        plays("clause b;", 4, 0);
        plays("  clause c -b;", 4, 2);
        plays("clause a;", 0, NONE);
        plays("clause -a b;", 0, NONE);
        plays("clause;", 0, NONE);
        plays("clause;clause;", 4, 7);
        plays("drop 3;clause -b c;", 0, NONE);
        plays("negate b;clause a -b;", 4, 9);
        plays("negate b;clause a b;", 0, NONE);
    }

    /** All literals have been read, and the semicolon is not looked for. */
    static void promise6ParseError4OfAClauseThatExistsIsFoundBeforeTheSemicolon() {
        plays("clause a b", 4, 0);
        plays("clause a b ", 4, 0);
        plays("clause a b 5;", 4, 0);
        plays("clause a b $;", 4, 0);
        plays("clause a b c;", 0, NONE);
        plays("clause a b e;", 2, 11);
        plays("clause a b bb;", 1, 11);
        plays("clause a b -;", 1, 12);
        plays("clause a b -b;", 3, 12);
    }

    static void promise6ParseError4ForTheSecondClauseOfResolve() {
        plays("resolve 0 0;", 4, 10);
        plays("resolve 0 2;", 4, 10);
        plays("resolve 0 1;", 4, 10);
        plays("resolve 1 0;", 4, 10);
        plays("resolve 1 3", 4, 10);
        plays("resolve 3 2;", 0, NONE);
        plays("resolve 3 2;resolve 2 3;", 4, 22);
        plays("clause -a -b;resolve 0 4;", 4, 23);
        plays("clause -a -c;resolve 0 4;", 0, NONE);
        plays("resolve  0\t3;resolve 0 \n 3;", 4, 25);
    }

    static void promise6ParseError4ForResolveWith60Clauses() {
        ResolutionProver x = Provers.ofRing(46);
        x.addClause(1, 0);
        plays(x, "resolve 58 0;expect clauses 60;", 0, NONE);
        x.undo();
        plays(x, "clause c;resolve 58 0;", 4, 20);
        plays(x, "clause c;resolve 60 0;", 2, 17);
        plays(x, "clause c;resolve 58 60;", 2, 20);
        plays(x, "clause c;resolve 0 0;", 4, 19);
    }

    static void promise6ParseError4ForTheClauseOfDrop() {
        plays("drop 0;", 4, 5);
        plays("drop 1", 4, 5);
        plays("drop 1 $", 4, 5);
        plays("drop 2;", 0, NONE);
        plays("drop 3;", 0, NONE);
        plays("drop 2;drop 0;drop 0;drop 0;", 0, NONE);
        plays("resolve 2 3;drop 3;", 4, 17);
        plays("resolve 3 2;drop 2;", 4, 17);
        plays("resolve 2 3;drop 4;drop 3;drop 2;drop 1;drop 0;expect clauses 0;", 0, NONE);
    }

    // ---- error code 5

    private static void expects(String script, String condition, int due, String behind) {
        for (int value : new int[] {due - 1, due, due + 1}) {
            if (value >= 0) {
                String expect = "expect " + condition + value + behind;
                plays(script + expect, value == due ? 0 : 5, value == due ? NONE : script.length());
            }
        }
    }

    static void promise6ParseError5ForAValueOneTooSmallOrTooGreat() {
        expects("", "clauses ", 4, ";");
        expects("drop 3;drop 2;drop 1;drop 0;", "clauses ", 0, ";");
        expects("", "models ", 2, ";");
        expects("clause;", "models ", 0, ";");
        expects("drop 3;drop 2;drop 1;drop 0;", "models ", 16, ";");
        expects("", "subsumed ", 1, ";");
        expects("drop 2;", "subsumed ", 0, ";");
        expects("clause;", "subsumed ", 4, ";");
        expects("", "size 0 ", 2, ";");
        expects("clause;", "size 4 ", 0, ";");
        expects("clause a -b c -d;", "size 4 ", 4, ";");
        expects("", "depth 1 ", 0, ";");
        expects("", "depth 2 ", 1, ";");
        expects("resolve 2 3;", "depth 4 ", 2, ";");
    }

    static void promise6ParseError5OfTheGreatestValues() {
        ResolutionProver x = Provers.withVariables(12);
        plays(x, "expect models 4096;", 0, NONE);
        plays(x, "expect models 4095;", 5, 0);
        plays(x, "expect models 4097;", 5, 0);
        plays(x, "clause a b c d e f g h i j k l;expect models 4095;", 0, NONE);
        plays(x, "expect size 0 12;", 0, NONE);
        plays(x, "expect size 0 13;", 5, 0);
    }

    static void promise6ParseError5WithAndWithoutAnEmptyClause() {
        plays("expect open;", 0, NONE);
        plays("expect refuted;", 5, 0);
        plays("clause;expect refuted;", 0, NONE);
        plays("clause;expect open;", 5, 7);
        plays("clause;drop 4;expect open;", 0, NONE);
        plays("clause -b;saturate 99;expect refuted;", 0, NONE);
    }

    static void promise6ParseError5OfImpliedAndFixed() {
        plays("expect implied b;", 0, NONE);
        plays("expect implied -b;", 5, 0);
        plays("expect implied d;", 5, 0);
        plays("expect implied -d b;", 0, NONE);
        plays("expect implied;", 5, 0);
        plays("clause;expect implied;", 0, NONE);
        plays("expect fixed b;", 0, NONE);
        plays("expect fixed -b;", 5, 0);
        plays("expect fixed -a;", 0, NONE);
        plays("expect fixed a;", 5, 0);
        plays("expect fixed d;", 5, 0);
        plays("expect fixed -d;", 5, 0);
    }

    static void promise6ParseError5IsFoundBeforeTheSemicolon() {
        plays("expect refuted", 5, 0);
        plays("expect refuted $", 5, 0);
        plays("expect clauses 3", 5, 0);
        plays("expect clauses 3 3;", 5, 0);
        plays("expect clauses 4", 1, 16);
        plays("expect clauses 4 4;", 1, 17);
        plays("expect implied a", 5, 0);
        plays("expect implied a 5;", 5, 0);
        plays("expect implied", 5, 0);
        plays("expect fixed d", 5, 0);
        plays("expect size 0 1", 5, 0);
        plays("expect size 0", 1, 13);
        plays("  expect depth 0 1", 5, 2);
    }

    // ---- which error

    static void promise6ParseErrorIsTheLowestCodeOfAToken() {
        plays("clause bb;", 1, 7);
        plays("negate ee;", 1, 7);
        plays("negate 00000;", 1, 7);
        plays("drop 00000;", 2, 5);
        plays("drop 4;", 2, 5);
        plays("resolve 0 00000;", 2, 10);
        plays("resolve 4 4;", 2, 8);
        plays(Provers.ofRing(48), "resolve 0 60;", 2, 10);
        plays(Provers.ofRing(48), "resolve 0 59999;", 2, 10);
        plays("clause a -e;", 2, 10);
    }

    static void promise7ParseErrorPositionIsThatOfTheFirstWrongToken() {
        plays("drop 9;drop 9;", 2, 5);
        plays("expect refuted;$", 5, 0);
        plays("resolve 9 a;", 2, 8);
        plays("expect size 9 a;", 2, 12);
        plays("clause a -a bb;", 3, 10);
        plays("clause e -a a;", 2, 7);
        loads("logic 0 clause;", 2, 6);
        loads("logic 4,clause e;", 1, 7);
    }

    /** Each command sees what the ones before it have made. */
    static void promise5PlayExecutesTheCommandsInTheirOrder() {
        plays("drop 2;drop 1;drop 0;drop 0;expect clauses 0;", 0, NONE);
        plays("drop 0;drop 2;", 4, 5);
        plays("drop 2;drop 0;drop 1;drop 0;drop 0;", 2, 33);
        plays("clause d;clause -d;resolve 4 5;expect refuted;", 0, NONE);
        plays("resolve 4 5;clause d;clause -d;", 2, 8);
    }

    static void promise5PlayExecutesEachKindOfCommand() {
        fits("clause c d;expect clauses 5;drop 4;expect clauses 4;");
        fits("resolve 2 3;expect clauses 5;expect size 4 1;expect depth 4 2;");
        fits("clause b d;clause a c -d;expect clauses 6;reduce;expect clauses 5;");
        fits("negate b;expect fixed -b;expect fixed -a;invert;expect fixed b;expect fixed a;");
        fits("clause d;clause -d;saturate 99;expect refuted;");
    }

    /** A condition has literals of its own, and none of a clause before it. */
    static void promise5PlayOfLiteralsStartsAnewEachTime() {
        fits("clause c d;expect fixed -a;");
        fits("clause -c -d a;expect fixed b;");
        fits("expect implied b d;expect implied b;expect fixed b;expect implied -a;");
        plays("clause b d;expect implied;", 5, 11);
        fits("clause d;clause -d;");
        plays("clause d;expect implied -d;", 5, 9);
    }

    static void promise5PlayOfInvertNegatesAllVariables() {
        for (int variables : new int[] {1, 2, 11, 12}) {
            ResolutionProver x = Provers.withVariables(variables);
            int all = (1 << variables) - 1;
            x.addClause(all & ~1, 1);
            plays(x, "invert;", 0, NONE);
            CHECK.equal("positiveOf", x.positiveOf(0), 1);
            CHECK.equal("negativeOf", x.negativeOf(0), all & ~1);
        }
    }
}
