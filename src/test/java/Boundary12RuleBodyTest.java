/** Promise 12: a test for each sentence that names a boundary case. */
public final class Boundary12RuleBodyTest {
    private static final Checks checks = new Checks();

    public static void main(String[] args) {
        checks.test("answers the index-th body literal (counting from 0, in order of addition) of rule.",
            Boundary12RuleBodyTest::inOrderOfAddition);
        checks.test("It answers NONE if rule is not an existing rule index", Boundary12RuleBodyTest::noRule);
        checks.test("or if index is not in [0, number of body literals of that rule) (including any negative index).",
            Boundary12RuleBodyTest::outsideTheBody);
        checks.test("It changes nothing.", Boundary12RuleBodyTest::changesNothing);
        checks.finish();
    }

    private static int literal(int rule, int place) {
        return (63 - rule + place * 23) % 64;
    }

    /** The bodies of all rules are filled in turn, a place at a time. */
    private static void inOrderOfAddition() {
        DefeasibleLogic x = Theories.withRules(32);
        for (int place = 0; place < 4; place++) {
            for (int rule = 0; rule < 32; rule++) {
                x.addBody(rule, literal(rule, place));
            }
            for (int rule = 0; rule < 32; rule++) {
                for (int index = 0; index <= place; index++) {
                    checks.due("ruleBody(" + rule + ", " + index + ")", x.ruleBody(rule, index), literal(rule, index));
                }
            }
            x.compute();
        }
    }

    private static void noRule() {
        for (int count = 0; count <= 32; count++) {
            DefeasibleLogic x = Theories.withRules(count);
            for (int place = 0; place < 4 * count; place++) {
                x.addBody(place / 4, literal(place / 4, place % 4));
            }
            for (int rule : Ints.outside(count)) {
                for (int index = -1; index <= 4; index++) {
                    checks.due(count + " rules: ruleBody(" + rule + ", " + index + ")", x.ruleBody(rule, index), -1);
                }
            }
            x.reset();
            for (int rule = 0; rule < count; rule++) {
                checks.due("after reset: ruleBody(" + rule + ", 0)", x.ruleBody(rule, 0), -1);
            }
        }
    }

    /** Bodies of 0 to 4 literals between full ones, whose literals must not show. */
    private static void outsideTheBody() {
        for (int size = 0; size <= 4; size++) {
            for (int rule = 0; rule < 3; rule++) {
                DefeasibleLogic x = Theories.withRules(3);
                for (int place = 0; place < 12; place++) {
                    if (place / 4 != rule || place % 4 < size) {
                        x.addBody(place / 4, literal(place / 4, place % 4));
                    }
                }
                for (int index : Ints.outside(size)) {
                    checks.due("a body of " + size + ": ruleBody(" + rule + ", " + index + ")", x.ruleBody(rule, index), -1);
                }
                for (int index = 0; index < size; index++) {
                    checks.due("a body of " + size + ": ruleBody(" + rule + ", " + index + ")", x.ruleBody(rule, index),
                        literal(rule, index));
                }
            }
        }
    }

    private static void changesNothing() {
        int[] ints = {Integer.MIN_VALUE, -1, 0, 1, 3, 4, 5, 32, Integer.MAX_VALUE};
        for (int rule : ints) {
            for (int index : ints) {
                String call = "ruleBody(" + rule + ", " + index + ")";
                checks.dueUnchanged(call, Theories::mixed, x -> x.ruleBody(rule, index));
                checks.dueUnchanged(call, Checks.computed(Theories::full), x -> x.ruleBody(rule, index));
            }
        }
    }
}
