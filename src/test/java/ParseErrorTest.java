/** The text format and its error codes, with their positions (promises 4 to 7). */
public final class ParseErrorTest {
    private static final Check CHECK = new Check("ParseErrorTest");

    public static void main(String[] args) {
        headers();
        tokens();
        numbers();
        literals();
        clauses();
        resolvents();
        droppedClauses();
        conditions();
        conditionsThatHold();
        sixtyClauses();
        CHECK.end();
    }

    private static void text(String text, int code, int position) {
        ResolutionProver x = new ResolutionProver();
        Feed.put(x, text);
        int got = 0;
        try {
            x.load();
        } catch (IllegalArgumentException e) {
            got = 1;
        }
        due(x, "load of \"" + text + "\"", got, code, position);
    }

    /** Plays on clauses a b, -a, b (a resolvent) and -b c. */
    private static void script(String script, int code, int position) {
        ResolutionProver x =
            Feed.loaded("logic 3;clause a b;clause -a;resolve 0 1;clause -b c;");
        Feed.put(x, script);
        int got = 0;
        try {
            x.play();
        } catch (IllegalArgumentException e) {
            got = 1;
        }
        due(x, "play of \"" + script + "\"", got, code, position);
    }

    private static void due(ResolutionProver x, String what, int threw, int code, int position) {
        CHECK.equal(what + " throws", threw, code == 0 ? 0 : 1);
        CHECK.equal("code of " + what, x.parseError(), code);
        CHECK.equal("position of " + what, x.parseErrorPosition(), position);
    }

    private static void headers() {
        text("", 1, 0);
        text("  \n", 1, 3);
        text("logic", 1, 5);
        text("logic 4", 1, 7);
        text("logic 4 ", 1, 8);
        text("Logic 4;", 1, 0);
        text("logics 4;", 1, 0);
        text("logi 4;", 1, 0);
        text("4;", 1, 0);
        text("logic a;", 1, 6);
        text("logic -4;", 1, 6);
        text("logic ;", 1, 6);
        text("logic 0;", 2, 6);
        text("logic 1;", 0, -1);
        text("logic 12;", 0, -1);
        text("logic 13;", 2, 6);
        text("logic 99999999999999;", 2, 6);
        text("logic 4 4;", 1, 8);
        text("logic 4 clause;", 1, 8);
        text("clause a;", 1, 0);
        text("logic 4;logic 4;", 1, 8);
        script("logic 4;", 1, 0);
    }

    private static void tokens() {
        text("logic\t4\n;\n", 0, -1);
        text("logic4;clause a-b c;expect clauses1;", 0, -1);
        text("logic\r4;", 1, 5);
        text("logic 4;\u0000", 1, 8);
        text("logic 4;\u00ff", 1, 8);
        text("logic 4;clause \u00e1;", 1, 15);
        text("logic 4;clause A;", 1, 15);
        text("logic 4;clause `;", 1, 15);
        text("logic 4;clause {;", 1, 15);
        text("logic 4;negate a/", 1, 16);
        text("logic 4;negate a:", 1, 16);
        text("logic 4;;", 1, 8);
        text("logic 4;-", 1, 8);
        text("logic 4;7;", 1, 8);
        text("logic 4;cla use;", 1, 8);
        text("logic 4;clauses a;", 1, 8);
        text("logic 4;reduce", 1, 14);
        text("logic 4;reduce reduce;", 1, 15);
        text("logic 4;invert a;", 1, 15);
        text("logic 4;reduce;clause a b", 1, 25);
    }

    private static void numbers() {
        script("saturate 0;", 2, 9);
        script("saturate 1;", 0, -1);
        script("saturate 99;", 0, -1);
        script("saturate 100;", 2, 9);
        script("saturate 0099;", 0, -1);
        script("saturate 00099;", 2, 9);
        script("saturate;", 1, 8);
        script("saturate a;", 1, 9);
        script("saturate", 1, 8);
        script("saturate 9", 1, 10);
        script("expect clauses 0004;", 0, -1);
        script("expect clauses 00004;", 2, 15);
        script("expect clauses 9999;", 5, 0);
        script("expect clauses 10000;", 2, 15);
        script("expect clauses 4294967300;", 2, 15);
        script("expect size 3 00002;", 2, 14);
        script("drop 4;", 2, 5);
        script("drop 9999999999;", 2, 5);
        script("drop 003;", 0, -1);
        script("drop 00003;", 2, 5);
        script("resolve 4 9;", 2, 8);
        script("resolve 0 4;", 2, 10);
        script("resolve 0 99999;", 2, 10);
        text("logic 4;drop 0;", 2, 13);
        text("logic 4;expect size 0 0;", 2, 20);
    }

    private static void literals() {
        text("logic 4;clause d;", 0, -1);
        text("logic 4;clause e;", 2, 15);
        text("logic 4;clause a -e;", 2, 18);
        text("logic 4;clause a e -a", 2, 17);
        text("logic 4;clause ab;", 1, 15);
        text("logic 4;clause zz;", 1, 15);
        text("logic 4;clause -ab;", 1, 16);
        text("logic 4;clause - ;", 1, 17);
        text("logic 4;clause -", 1, 16);
        text("logic 4;clause - -a;", 1, 17);
        text("logic 4;clause 1;", 1, 15);
        text("logic 4;clause a clause b;", 1, 17);
        text("logic 4;clause a -a;", 3, 18);
        text("logic 4;clause -a b a;", 3, 20);
        text("logic 4;clause a - a;", 3, 19);
        text("logic 4;clause a a -b -b a;", 0, -1);
        text("logic 4;clause a;clause -a;", 0, -1);
        text("logic 4;expect implied a -a;", 3, 26);
        text("logic 4;expect implied ab;", 1, 23);
        text("logic 4;expect implied e;", 2, 23);
        text("logic 4;negate d;", 0, -1);
        text("logic 4;negate e;", 2, 15);
        text("logic 4;negate ab;", 1, 15);
        text("logic 4;negate -a;", 1, 15);
        text("logic 4;negate a b;", 1, 17);
        text("logic 4;negate 1;", 1, 15);
        text("logic 4;negate;", 1, 14);
    }

    private static void clauses() {
        text("logic 4;clause;clause;", 4, 15);
        text("logic 4;clause b -a;clause -a b b;", 4, 20);
        text("logic 4;clause a;clause a", 4, 17);
        text("logic 4;clause a;clause a 5;", 4, 17);
        text("logic 4;clause a;clause a e;", 2, 26);
        text("logic 4;clause a;clause a bb;", 1, 26);
        text("logic 4;clause a;clause a -a;", 3, 27);
        text("logic 4;clause a;clause b;clause a b;", 0, -1);
    }

    private static void resolvents() {
        script("resolve 0 3;", 0, -1);
        script("resolve 3 0;", 0, -1);
        script("resolve 3 2;", 0, -1);
        script("resolve 0 0;", 4, 10);
        script("resolve 0 1;", 4, 10);
        script("resolve 1 0;", 4, 10);
        script("resolve 0 2;", 4, 10);
        script("resolve 0 2", 4, 10);
        script("resolve 1 3", 4, 10);
        script("resolve 0;", 1, 9);
        script("resolve a 0;", 1, 8);
        script("resolve 0 a;", 1, 10);
        script("resolve -1 0;", 1, 8);
        script("resolve 0 3 1;", 1, 12);
        text("logic 2;clause a b;clause -a -b;resolve 0 1;", 4, 42);
    }

    private static void droppedClauses() {
        script("drop 0;", 4, 5);
        script("drop 1", 4, 5);
        script("drop 2;", 0, -1);
        script("drop 3;", 0, -1);
        script("drop 2;drop 1;drop 0;drop 0;", 0, -1);
        script("drop 2;drop 1;drop 0;drop 0;drop 0;", 2, 33);
        script("drop;", 1, 4);
        script("drop a;", 1, 5);
        script("drop 2 2;", 1, 7);
    }

    private static void conditions() {
        script("expect;", 1, 6);
        script("expect x;", 1, 7);
        script("expect clause 4;", 1, 7);
        script("expect 4;", 1, 7);
        script("expect clauses;", 1, 14);
        script("expect clauses 3;", 5, 0);
        script("expect clauses 3", 5, 0);
        script("expect clauses 3 3;", 5, 0);
        script("expect clauses 4 3;", 1, 17);
        script("expect models 2;", 5, 0);
        script("expect models a;", 1, 14);
        script(" expect refuted;", 5, 1);
        script("expect open 1;", 1, 12);
        script("clause;expect open;", 5, 7);
        script("expect implied;", 5, 0);
        script("expect implied a", 5, 0);
        script("expect implied c;expect implied a;", 5, 17);
        script("expect fixed -b;", 5, 0);
        script("expect fixed a;", 5, 0);
        script("expect fixed;", 1, 12);
        script("expect fixed -;", 1, 14);
        script("expect fixed b c;", 1, 15);
        script("expect fixed d;", 2, 13);
        script("expect fixed bc;", 1, 13);
        script("expect subsumed 0;", 5, 0);
        script("expect subsumed 2;", 5, 0);
        script("expect size 4 1;", 2, 12);
        script("expect size 3 1;", 5, 0);
        script("expect size 3;", 1, 13);
        script("expect size 3 a;", 1, 14);
        script("expect size a;", 1, 12);
        script("expect depth 4 1;", 2, 13);
        script("expect depth 2 0;", 5, 0);
        script("expect depth 2;", 1, 14);
    }

    private static void conditionsThatHold() {
        script("expect clauses 4;", 0, -1);
        script("expect models 1;", 0, -1);
        script("expect open;", 0, -1);
        script("clause;expect refuted;expect implied;expect models 0;", 0, -1);
        script("expect implied b;expect implied c;expect implied -a;", 0, -1);
        script("expect implied a b;expect implied -a c -b;", 0, -1);
        script("expect fixed b;expect fixed c;expect fixed -a;", 0, -1);
        script("expect subsumed 1;", 0, -1);
        script("expect size 0 2;expect size 2 1;clause;expect size 4 0;", 0, -1);
        script("expect depth 0 0;expect depth 2 1;resolve 2 3;expect depth 4 2;", 0, -1);
        script("negate b;expect fixed -b;expect models 1;expect size 2 1;", 0, -1);
        script("invert;expect fixed a;expect fixed -b;expect fixed -c;", 0, -1);
        script("reduce;expect clauses 4;", 0, -1);
        script("clause b c;reduce;expect clauses 4;", 0, -1);
        script("saturate 1;expect clauses 5;expect size 4 2;", 0, -1);
    }

    /** A prover with 60 clauses: those of all letters, of -a, and of 58 pairs of letters. */
    private static ResolutionProver full() {
        ResolutionProver x = new ResolutionProver();
        Feed.load(x, "logic 12;clause a b c d e f g h i j k l;clause -a;");
        int count = 2;
        for (int mask = 1; count < 60; mask++) {
            if (Integer.bitCount(mask) == 2) {
                x.addClause(mask, 0);
                count++;
            }
        }
        return x;
    }

    private static void scriptOfFull(String script, int code, int position) {
        ResolutionProver x = full();
        Feed.put(x, script);
        int got = 0;
        try {
            x.play();
        } catch (IllegalArgumentException e) {
            got = 1;
        }
        due(x, "play with 60 clauses of \"" + script + "\"", got, code, position);
    }

    private static void sixtyClauses() {
        scriptOfFull("clause c -c;", 4, 0);
        scriptOfFull("clause", 4, 0);
        scriptOfFull("expect open;clause 7", 4, 12);
        scriptOfFull("resolve 0 1;", 4, 10);
        scriptOfFull("resolve 60 1;", 2, 8);
        scriptOfFull("resolve 0 60;", 2, 10);
        scriptOfFull("saturate 9;expect clauses 60;", 0, -1);
        scriptOfFull("drop 59;clause c -d;", 0, -1);
        scriptOfFull("drop 59;resolve 0 1;expect clauses 60;", 0, -1);
        scriptOfFull("expect size 59 2;", 0, -1);
        scriptOfFull("drop 59;expect size 59 2;", 2, 20);
    }
}
