/** Promise 10: a test for each sentence that names a boundary case. */
public final class Boundary10RuleKindTest {
    private static final Checks checks = new Checks();

    public static void main(String[] args) {
        checks.test("answers the kind (STRICT, DEFEASIBLE or DEFEATER) of rule", Boundary10RuleKindTest::kinds);
        checks.test("or NONE if rule is not an existing rule index.", Boundary10RuleKindTest::noRule);
        checks.test("It changes nothing.", Boundary10RuleKindTest::changesNothing);
        checks.finish();
    }

    private static void kinds() {
        for (int shift = 0; shift < 3; shift++) {
            DefeasibleLogic x = new DefeasibleLogic(1, 32);
            for (int rule = 0; rule < 32; rule++) {
                x.newRule((rule + shift) % 3, 0);
            }
            for (int turn = 0; turn < 2; turn++) {
                for (int rule = 0; rule < 32; rule++) {
                    checks.due("ruleKind(" + rule + ")", x.ruleKind(rule), (rule + shift) % 3);
                }
                x.compute();
            }
        }
    }

    private static void noRule() {
        for (int count = 0; count <= 32; count++) {
            DefeasibleLogic x = Theories.withRules(count);
            for (int rule : Ints.outside(count)) {
                checks.due(count + " rules: ruleKind(" + rule + ")", x.ruleKind(rule), DefeasibleLogic.NONE);
            }
            x.reset();
            for (int rule = 0; rule < count; rule++) {
                checks.due("after reset: ruleKind(" + rule + ")", x.ruleKind(rule), DefeasibleLogic.NONE);
            }
        }
    }

    private static void changesNothing() {
        for (int rule : new int[] {Integer.MIN_VALUE, -1, 0, 4, 5, 31, 32, Integer.MAX_VALUE}) {
            checks.dueUnchanged("ruleKind(" + rule + ")", Theories::mixed, x -> x.ruleKind(rule));
            checks.dueUnchanged("ruleKind(" + rule + ")", Checks.computed(Theories::full), x -> x.ruleKind(rule));
        }
    }
}
