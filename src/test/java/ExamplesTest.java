/** The five examples of the document. */
public final class ExamplesTest {
    private static final Check CHECK = new Check("ExamplesTest");

    public static void main(String[] args) {
        refutation();
        resolution();
        script();
        oppositeLiterals();
        negation();
        CHECK.end();
    }

    private static void refutation() {
        ResolutionProver x = new ResolutionProver();
        CHECK.equal("1 append",
            x.append(1819240297, 1663054651, 1668047221, 1936007265, 543308643), 20);
        CHECK.equal("1 append",
            x.append(1818326387, 1696607585, 543374179, 1818326387, 1696607586), 40);
        CHECK.equal("1 append", x.append(543374179, 1818326387, 1696607587, 989855744, 0), 60);
        CHECK.yes("1 truncate", x.truncate(53));
        CHECK.equal("1 load", x.load(), 4);
        CHECK.equal("1 modelCount", x.modelCount(), 0);
        CHECK.equal("1 stepsToEmpty", x.stepsToEmpty(), 8);
        CHECK.equal("1 nextFirst", x.nextFirst(), 0);
        CHECK.equal("1 fixedFalse", x.fixedFalse(), 7);
    }

    private static void resolution() {
        ResolutionProver x = new ResolutionProver();
        CHECK.equal("2 addClause", x.addClause(1, 0), 0);
        CHECK.equal("2 addClause", x.addClause(2, 1), 1);
        CHECK.equal("2 resolve", x.resolve(0, 1), 2);
        CHECK.equal("2 writeClause", x.writeClause(2), 1);
        CHECK.equal("2 depthOf", x.depthOf(2), 1);
        CHECK.equal("2 premises", x.premises(2), 3);
    }

    private static void script() {
        ResolutionProver x = new ResolutionProver();
        CHECK.equal("3 append",
            x.append(1668047221, 1936007265, 543308643, 1818326387, 1696607585), 20);
        CHECK.equal("3 append",
            x.append(996505712, 1701016608, 1768779884, 1768252448, 1648033792), 40);
        CHECK.yes("3 truncate", x.truncate(38));
        CHECK.equal("3 play", x.play(), 3);
        CHECK.equal("3 firstModel", x.firstModel(), 2);
        CHECK.equal("3 fixedTrue", x.fixedTrue(), 2);
        CHECK.no("3 isRedundant", x.isRedundant(0));
    }

    private static void oppositeLiterals() {
        ResolutionProver x = new ResolutionProver();
        CHECK.equal("4 append",
            x.append(1819240297, 1663054395, 1668047221, 1936007265, 539844923), 20);
        CHECK.yes("4 truncate", x.truncate(20));
        CHECK.noArgument("4 load", x::load);
        CHECK.equal("4 parseErrorPosition", x.parseErrorPosition(), 18);
        CHECK.equal("4 parseError", x.parseError(), 3);
    }

    private static void negation() {
        ResolutionProver x = new ResolutionProver();
        CHECK.equal("5 addClause", x.addClause(3, 0), 0);
        CHECK.equal("5 negateVariable", x.negateVariable(0), 1);
        CHECK.equal("5 negativeOf", x.negativeOf(0), 1);
        CHECK.noState("5 addClause", () -> x.addClause(2, 1));
    }
}
