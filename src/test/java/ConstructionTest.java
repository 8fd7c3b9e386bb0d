/** Promise 1: the arguments are clamped, and a new object is empty. */
public final class ConstructionTest {
    private static final Checks checks = new Checks();

    private static final int[] ARGUMENTS = {
        Integer.MIN_VALUE, Integer.MIN_VALUE + 1, -33, -1, 0, 1, 2, 3, 16, 31, 32, 33, 64,
        1 << 30, (1 << 30) + 1, Integer.MAX_VALUE - 1, Integer.MAX_VALUE
    };

    public static void main(String[] args) {
        for (int atoms : ARGUMENTS) {
            for (int maxRules : ARGUMENTS) {
                String made = "new(" + atoms + ", " + maxRules + ")";
                checkEmpty(made, new DefeasibleLogic(atoms, maxRules));
                checkLiterals(made, new DefeasibleLogic(atoms, maxRules), 2 * clamped(atoms));
                checkRuleLimit(made, new DefeasibleLogic(atoms, maxRules), clamped(maxRules));
            }
        }
        checks.finish();
    }

    private static int clamped(int value) {
        return Math.max(1, Math.min(32, value));
    }

    private static void checkEmpty(String made, DefeasibleLogic x) {
        checks.due(made + ".ruleCount()", x.ruleCount(), 0);
        checks.due(made + ".ruleKind(0)", x.ruleKind(0), -1);
        checks.due(made + ".isSuperior(0, 1)", x.isSuperior(0, 1), false);
        for (int lit = -1; lit <= 64; lit++) {
            checks.due(made + ".isFact(" + lit + ")", x.isFact(lit), false);
            checks.due(made + ".hasTag(" + lit + ", 1)", x.hasTag(lit, 1), false);
        }
        checks.due(made + ".countTag(1)", x.countTag(1), -2);
        checks.due(made + ".winner(0)", x.winner(0), -2);
    }

    private static void checkLiterals(String made, DefeasibleLogic x, int literals) {
        for (int lit = -2; lit <= 66; lit++) {
            boolean valid = lit >= 0 && lit < literals;
            checks.due(made + ".addFact(" + lit + ")", x.addFact(lit), valid);
        }
        checks.due(made + ".compute()", x.compute(), literals);
        x.reset();
        checks.due(made + " reset, addFact(" + (literals - 1) + ")", x.addFact(literals - 1), true);
        checks.due(made + " reset, addFact(" + literals + ")", x.addFact(literals), false);
    }

    private static void checkRuleLimit(String made, DefeasibleLogic x, int limit) {
        for (int rule = 0; rule < limit; rule++) {
            checks.due(made + ".newRule(1, 0)", x.newRule(1, 0), rule);
        }
        checks.due(made + ".newRule(1, 0) beyond", x.newRule(1, 0), -1);
        checks.due(made + ".ruleCount()", x.ruleCount(), limit);
    }
}
