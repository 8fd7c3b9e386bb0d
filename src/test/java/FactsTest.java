/** Promises 3 and 4: addFact and isFact. */
public final class FactsTest {
    private static final Checks checks = new Checks();

    public static void main(String[] args) {
        for (int atoms = 1; atoms <= 32; atoms++) {
            takesEveryLiteralOnce(atoms);
            refusesTheRest(atoms);
        }
        leavesRulesAndPairs();
        checks.finish();
    }

    private static void takesEveryLiteralOnce(int atoms) {
        for (int lit = 0; lit < 2 * atoms; lit++) {
            DefeasibleLogic x = new DefeasibleLogic(atoms, 1);
            checks.due("addFact(" + lit + ")", x.addFact(lit), true);
            checks.due("addFact(" + lit + ") again", x.addFact(lit), false);
            for (int other = -2; other <= 66; other++) {
                checks.due("isFact(" + other + ") after addFact(" + lit + ")", x.isFact(other), other == lit);
            }
            checks.due("addFact of the complement of " + lit, x.addFact(lit ^ 1), true);
            checks.due("isFact(" + lit + ") with its complement", x.isFact(lit), true);
            checks.due("isFact of the complement of " + lit, x.isFact(lit ^ 1), true);
            x.compute();
            checks.due("isFact(" + lit + ") when computed", x.isFact(lit), true);
        }
    }

    private static void refusesTheRest(int atoms) {
        DefeasibleLogic x = new DefeasibleLogic(atoms, 1);
        for (int lit = 0; lit < 2 * atoms; lit++) {
            x.addFact(lit);
        }
        for (int lit = 2 * atoms; lit < 2 * atoms + 130; lit++) {
            checkRefused(x, lit);
        }
        for (int lit : Checks.FAR) {
            if (lit < 0 || lit >= 2 * atoms) {
                checkRefused(x, lit);
            }
        }
    }

    private static void checkRefused(DefeasibleLogic x, int lit) {
        checks.due("addFact(" + lit + ")", x.addFact(lit), false);
        checks.due("isFact(" + lit + ")", x.isFact(lit), false);
    }

    private static void leavesRulesAndPairs() {
        DefeasibleLogic x = new DefeasibleLogic(2, 2);
        checks.rule(x, 0, 0, 2, 3);
        checks.rule(x, 2, 1);
        checks.superior(x, 0, 1);
        checks.due("addFact(2)", x.addFact(2), true);
        checks.due("ruleCount()", x.ruleCount(), 2);
        checks.due("ruleKind(0)", x.ruleKind(0), 0);
        checks.due("ruleHead(1)", x.ruleHead(1), 1);
        checks.dueBody("after addFact", x, 0, 2, 3);
        checks.due("isSuperior(0, 1)", x.isSuperior(0, 1), true);
    }
}
