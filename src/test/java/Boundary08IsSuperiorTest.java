/** Promise 8: a test for each sentence that names a boundary case. */
public final class Boundary08IsSuperiorTest {
    private static final Checks checks = new Checks();

    public static void main(String[] args) {
        checks.test("answers true iff the pair (stronger, weaker) is recorded.", Boundary08IsSuperiorTest::recordedAlone);
        checks.test("Pairs implied only by chains of recorded pairs are not recorded and give false.",
            Boundary08IsSuperiorTest::chains);
        checks.test("Any int arguments are accepted; arguments that are not existing rule indices give false.",
            Boundary08IsSuperiorTest::noRules);
        checks.test("or equal arguments, give false.", Boundary08IsSuperiorTest::equal);
        checks.test("It does not depend on the flag", Boundary08IsSuperiorTest::anyFlag);
        checks.test("and changes nothing.", Boundary08IsSuperiorTest::changesNothing);
        checks.finish();
    }

    private static void recordedAlone() {
        for (int stronger = 0; stronger < 32; stronger++) {
            for (int weaker = 0; weaker < 32; weaker++) {
                if (stronger != weaker) {
                    DefeasibleLogic x = Theories.withRules(32);
                    checks.superior(x, stronger, weaker);
                    for (int pair = 0; pair < 32 * 32; pair++) {
                        boolean due = pair / 32 == stronger && pair % 32 == weaker;
                        checks.due("isSuperior(" + pair / 32 + ", " + pair % 32 + ")",
                            x.isSuperior(pair / 32, pair % 32), due);
                    }
                }
            }
        }
    }

    /** Chains made from their strongest rule on, from their weakest, and from every third. */
    private static void chains() {
        for (int order : new int[] {1, 30, 3}) {
            DefeasibleLogic x = Theories.withRules(32);
            for (int place = 0; place < 31; place++) {
                int rule = place * order % 31;
                checks.superior(x, rule, rule + 1);
            }
            for (int pair = 0; pair < 32 * 32; pair++) {
                boolean due = pair / 32 + 1 == pair % 32;
                checks.due("order " + order + ": isSuperior(" + pair / 32 + ", " + pair % 32 + ")",
                    x.isSuperior(pair / 32, pair % 32), due);
            }
        }
    }

    /** Beside every pair of an order; none of these ints is taken for the rule that it wraps round to. */
    private static void noRules() {
        for (int count : new int[] {0, 1, 2, 5, 31, 32}) {
            DefeasibleLogic x = Theories.withRules(count);
            for (int pair = 0; pair < count * count; pair++) {
                if (pair / count < pair % count) {
                    checks.superior(x, pair / count, pair % count);
                }
            }
            for (int rule : Ints.outside(count)) {
                for (int other = -1; other <= 32; other++) {
                    checks.due(count + " rules: isSuperior(" + rule + ", " + other + ")", x.isSuperior(rule, other), false);
                    checks.due(count + " rules: isSuperior(" + other + ", " + rule + ")", x.isSuperior(other, rule), false);
                }
                checks.due(count + " rules: isSuperior(" + rule + ", next)", x.isSuperior(rule, rule + 1), false);
            }
        }
        DefeasibleLogic x = Theories.packed();
        x.reset();
        checks.due("isSuperior(0, 1) after reset", x.isSuperior(0, 1), false);
    }

    private static void equal() {
        DefeasibleLogic x = Theories.packed();
        for (int rule = 0; rule < 32; rule++) {
            checks.due("isSuperior(" + rule + ", " + rule + ")", x.isSuperior(rule, rule), false);
        }
        for (int rule : Ints.outside(32)) {
            checks.due("isSuperior(" + rule + ", " + rule + ")", x.isSuperior(rule, rule), false);
        }
        checks.due("equal, without rules", new DefeasibleLogic(1, 1).isSuperior(0, 0), false);
    }

    private static void anyFlag() {
        DefeasibleLogic x = Theories.mixed();
        for (int turn = 0; turn < 3; turn++) {
            for (int pair = 0; pair < 5 * 5; pair++) {
                boolean due = pair / 5 + 1 == pair % 5 && pair % 5 < 4;
                checks.due("turn " + turn + ": isSuperior(" + pair / 5 + ", " + pair % 5 + ")",
                    x.isSuperior(pair / 5, pair % 5), due);
            }
            if (turn == 0) {
                x.compute();
            } else {
                checks.due("addFact(" + (5 + turn) + ")", x.addFact(5 + turn), true);
            }
        }
    }

    private static void changesNothing() {
        int[] ints = {Integer.MIN_VALUE, -1, 0, 1, 2, 4, 5, 31, 32, Integer.MAX_VALUE};
        for (int first : ints) {
            for (int second : ints) {
                String call = "isSuperior(" + first + ", " + second + ")";
                checks.dueUnchanged(call, Theories::mixed, x -> x.isSuperior(first, second));
                checks.dueUnchanged(call, Checks.computed(Theories::mixed), x -> x.isSuperior(first, second));
            }
        }
    }
}
