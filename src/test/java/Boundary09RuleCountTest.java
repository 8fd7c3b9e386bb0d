/** Promise 9: a test for each sentence that names a boundary case. */
public final class Boundary09RuleCountTest {
    private static final Checks checks = new Checks();

    public static void main(String[] args) {
        checks.test("answers the number of rules created since construction", Boundary09RuleCountTest::sinceConstruction);
        checks.test("or the last reset", Boundary09RuleCountTest::sinceReset);
        checks.test("a value from 0 to M.", Boundary09RuleCountTest::fromZeroToTheLimit);
        checks.test("It changes nothing.", Boundary09RuleCountTest::changesNothing);
        checks.finish();
    }

    /** Nothing but a created rule counts. */
    private static void sinceConstruction() {
        DefeasibleLogic x = new DefeasibleLogic(32, 32);
        for (int rule = 0; rule < 32; rule++) {
            checks.due("ruleCount()", x.ruleCount(), rule);
            x.newRule(3, 0);
            x.newRule(0, 64);
            x.addFact(rule);
            x.addBody(rule - 1, 1);
            x.addSuperior(rule - 1, rule - 2);
            x.compute();
            checks.due("ruleCount() after other calls", x.ruleCount(), rule);
            x.newRule(rule % 3, rule);
        }
        checks.due("ruleCount()", x.ruleCount(), 32);
    }

    private static void sinceReset() {
        for (int before = 0; before <= 32; before++) {
            DefeasibleLogic x = Theories.withRules(before);
            checks.due("ruleCount() before reset", x.ruleCount(), before);
            x.reset();
            checks.due("ruleCount() after reset of " + before, x.ruleCount(), 0);
            x.reset();
            checks.due("ruleCount() after a second reset", x.ruleCount(), 0);
            x.newRule(0, 0);
            checks.due("ruleCount() after reset and newRule", x.ruleCount(), 1);
        }
    }

    private static void fromZeroToTheLimit() {
        for (int limit = 1; limit <= 32; limit++) {
            DefeasibleLogic x = new DefeasibleLogic(1, limit);
            checks.due("M = " + limit + ": ruleCount() at first", x.ruleCount(), 0);
            for (int call = 1; call <= 40; call++) {
                x.newRule(1, 0);
                checks.due("M = " + limit + ": ruleCount() after " + call, x.ruleCount(), Math.min(call, limit));
            }
        }
    }

    private static void changesNothing() {
        checks.dueUnchanged("ruleCount() of a new object", () -> new DefeasibleLogic(1, 1), DefeasibleLogic::ruleCount);
        checks.dueUnchanged("ruleCount() before compute", Theories::mixed, DefeasibleLogic::ruleCount);
        checks.dueUnchanged("ruleCount() after compute", Checks.computed(Theories::full), DefeasibleLogic::ruleCount);
    }
}
