/** Promise 11: a test for each sentence that names a boundary case. */
public final class Boundary11RuleHeadTest {
    private static final Checks checks = new Checks();

    public static void main(String[] args) {
        checks.test("answers the head of rule", Boundary11RuleHeadTest::heads);
        checks.test("or NONE if rule is not an existing rule index.", Boundary11RuleHeadTest::noRule);
        checks.test("It changes nothing.", Boundary11RuleHeadTest::changesNothing);
        checks.finish();
    }

    private static void heads() {
        for (int shift = 0; shift < 64; shift++) {
            DefeasibleLogic x = new DefeasibleLogic(32, 32);
            for (int rule = 0; rule < 32; rule++) {
                x.newRule(rule % 3, (rule * 3 + shift) % 64);
            }
            for (int turn = 0; turn < 2; turn++) {
                for (int rule = 0; rule < 32; rule++) {
                    checks.due("ruleHead(" + rule + ")", x.ruleHead(rule), (rule * 3 + shift) % 64);
                }
                x.compute();
            }
        }
    }

    private static void noRule() {
        for (int count = 0; count <= 32; count++) {
            DefeasibleLogic x = Theories.withRules(count);
            for (int rule : Ints.outside(count)) {
                checks.due(count + " rules: ruleHead(" + rule + ")", x.ruleHead(rule), DefeasibleLogic.NONE);
            }
            x.reset();
            for (int rule = 0; rule < count; rule++) {
                checks.due("after reset: ruleHead(" + rule + ")", x.ruleHead(rule), DefeasibleLogic.NONE);
            }
        }
    }

    private static void changesNothing() {
        for (int rule : new int[] {Integer.MIN_VALUE, -1, 0, 4, 5, 31, 32, Integer.MAX_VALUE}) {
            checks.dueUnchanged("ruleHead(" + rule + ")", Theories::mixed, x -> x.ruleHead(rule));
            checks.dueUnchanged("ruleHead(" + rule + ")", Checks.computed(Theories::full), x -> x.ruleHead(rule));
        }
    }
}
