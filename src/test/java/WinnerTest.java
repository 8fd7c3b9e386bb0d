/** Promise 16: the ground of a defeasible conclusion. */
public final class WinnerTest {
    private static final Checks checks = new Checks();

    public static void main(String[] args) {
        testsInOrder();
        byFact();
        byStrictRule();
        byDefeasibleRule();
        leastIsNotStrongest();
        usesTheSetsLastComputed();
        checks.finish();
    }

    private static void testsInOrder() {
        DefeasibleLogic x = new DefeasibleLogic(2, 4);
        x.addFact(0);
        for (int wrong : Checks.FAR) {
            checks.due("winner(" + wrong + ") not computed", x.winner(wrong), -2);
        }
        checks.due("winner(0) not computed", x.winner(0), -2);
        x.compute();
        for (int wrong : Checks.FAR) {
            checks.due("winner(" + wrong + ")", x.winner(wrong), -1);
        }
        checks.due("winner(4), no literal", x.winner(4), -1);
        checks.due("winner(1), in -d", x.winner(1), -1);
        checks.rule(x, 1, 2, 2);
        x.compute();
        checks.due("winner(2), undecided", x.winner(2), -1);
    }

    private static void byFact() {
        DefeasibleLogic x = new DefeasibleLogic(2, 4);
        checks.rule(x, 0, 0);
        checks.rule(x, 1, 0);
        x.addFact(0);
        x.addFact(1);
        x.compute();
        checks.due("winner(0), a fact with rules", x.winner(0), DefeasibleLogic.BY_FACT);
        checks.due("winner(1), a fact", x.winner(1), DefeasibleLogic.BY_FACT);
        checks.due("winner(2)", x.winner(2), DefeasibleLogic.NONE);
    }

    /** In +D the rules that are not strict, or whose bodies are in +d alone, are passed over. */
    private static void byStrictRule() {
        DefeasibleLogic x = new DefeasibleLogic(4, 8);
        x.addFact(4);
        checks.rule(x, 2, 0);
        checks.rule(x, 1, 0);
        checks.rule(x, 1, 2);
        checks.rule(x, 0, 0, 2);
        checks.rule(x, 0, 0, 6);
        checks.rule(x, 0, 1, 4);
        checks.rule(x, 0, 0, 4);
        checks.rule(x, 0, 0);
        x.compute();
        checks.due("winner(0), in +D", x.winner(0), 6);
        checks.due("winner(1), in +D", x.winner(1), 5);
        checks.due("winner(2), in +d alone", x.winner(2), 2);
        checks.due("winner(6)", x.winner(6), -1);
    }

    /** In +d alone the defeaters, and the rules whose bodies are not in +d, are passed over. */
    private static void byDefeasibleRule() {
        DefeasibleLogic x = new DefeasibleLogic(4, 8);
        checks.rule(x, 2, 0);
        checks.rule(x, 1, 0, 4);
        checks.rule(x, 0, 0, 4);
        checks.rule(x, 1, 2);
        checks.rule(x, 0, 0, 2);
        checks.rule(x, 1, 0);
        x.compute();
        checks.due("winner(0), a strict rule", x.winner(0), 4);
        checks.due("winner(2)", x.winner(2), 3);
        checks.due("winner(4)", x.winner(4), -1);

        x = new DefeasibleLogic(4, 8);
        checks.rule(x, 1, 0);
        checks.rule(x, 0, 0, 2);
        checks.rule(x, 1, 2);
        x.compute();
        checks.due("winner(0), the least of two kinds", x.winner(0), 0);
    }

    private static void leastIsNotStrongest() {
        DefeasibleLogic x = new DefeasibleLogic(1, 4);
        checks.rule(x, 1, 0);
        checks.rule(x, 1, 1);
        checks.rule(x, 1, 0);
        checks.superior(x, 2, 1);
        x.compute();
        checks.due("winner(0), though rule 2 beats the attack", x.winner(0), 0);
        checks.due("winner(1)", x.winner(1), -1);
    }

    private static void usesTheSetsLastComputed() {
        DefeasibleLogic x = new DefeasibleLogic(2, 4);
        checks.rule(x, 1, 0, 2);
        checks.rule(x, 1, 0);
        x.compute();
        checks.due("winner(0)", x.winner(0), 1);
        x.addFact(2);
        checks.due("winner(0) after a change", x.winner(0), -2);
        x.compute();
        checks.due("winner(0) of the changed theory", x.winner(0), 0);
        x.addFact(1);
        x.compute();
        checks.due("winner(0) against a fact", x.winner(0), -1);
        x.addFact(0);
        x.compute();
        checks.due("winner(0), now a fact", x.winner(0), -3);
    }
}
