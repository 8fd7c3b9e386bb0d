/** Promises 7 and 8: addSuperior and isSuperior. */
public final class SuperiorityTest {
    private static final Checks checks = new Checks();

    public static void main(String[] args) {
        recordsOnePairAlone();
        refusesWrongInput();
        refusesCyclesOfEveryLength();
        refusesCyclesThroughAnyOrder();
        takesManyPathsWithoutCycle();
        leavesTheRest();
        checks.finish();
    }

    private static DefeasibleLogic withRules(int count) {
        DefeasibleLogic x = new DefeasibleLogic(2, 32);
        for (int rule = 0; rule < count; rule++) {
            x.newRule(rule % 3, rule % 4);
        }
        return x;
    }

    private static void recordsOnePairAlone() {
        for (int stronger = 0; stronger < 32; stronger++) {
            for (int weaker = 0; weaker < 32; weaker++) {
                DefeasibleLogic x = withRules(32);
                String call = "addSuperior(" + stronger + ", " + weaker + ")";
                boolean taken = stronger != weaker;
                checks.due(call, x.addSuperior(stronger, weaker), taken);
                checks.due(call + " again", x.addSuperior(stronger, weaker), false);
                checks.due(call + " turned round", x.addSuperior(weaker, stronger), false);
                for (int a = -1; a <= 32; a++) {
                    for (int b = -1; b <= 32; b++) {
                        boolean due = taken && a == stronger && b == weaker;
                        checks.due(call + ", isSuperior(" + a + ", " + b + ")", x.isSuperior(a, b), due);
                    }
                }
            }
        }
    }

    private static void refusesWrongInput() {
        DefeasibleLogic x = withRules(3);
        for (int wrong : Checks.FAR) {
            checkRefused(x, wrong, 0);
            checkRefused(x, 0, wrong);
            checkRefused(x, wrong, wrong);
        }
        checkRefused(x, 3, 0);
        checkRefused(x, 0, 3);
        checkRefused(x, 31, 2);
        checkRefused(x, 2, 32);
        checkRefused(x, 1, 1);
        for (int rule = 0; rule < 29; rule++) {
            x.newRule(0, 0);
        }
        for (int a = 0; a < 32; a++) {
            for (int b = 0; b < 32; b++) {
                checks.due("isSuperior after refusals", x.isSuperior(a, b), false);
            }
        }
    }

    private static void checkRefused(DefeasibleLogic x, int stronger, int weaker) {
        String pair = "(" + stronger + ", " + weaker + ")";
        checks.due("addSuperior" + pair, x.addSuperior(stronger, weaker), false);
        checks.due("isSuperior" + pair, x.isSuperior(stronger, weaker), false);
    }

    /** The chains go up and down, so that no order of looking at the rules helps. */
    private static void refusesCyclesOfEveryLength() {
        for (int length = 2; length <= 32; length++) {
            DefeasibleLogic up = withRules(32);
            DefeasibleLogic down = withRules(32);
            for (int rule = 0; rule + 1 < length; rule++) {
                checks.superior(up, rule, rule + 1);
                checks.superior(down, 31 - rule, 30 - rule);
            }
            checkRefused(up, length - 1, 0);
            checkRefused(down, 32 - length, 31);
            if (length > 2) {
                checks.due("isSuperior by a chain", up.isSuperior(0, length - 1), false);
                checks.due("addSuperior beside a chain", up.addSuperior(0, length - 1), true);
                checks.due("isSuperior beside a chain", up.isSuperior(0, length - 1), true);
            }
        }
    }

    private static void refusesCyclesThroughAnyOrder() {
        DefeasibleLogic x = withRules(32);
        for (int step = 0; step < 31; step++) {
            checks.superior(x, step * 13 % 32, (step + 1) * 13 % 32);
        }
        for (int from = 0; from < 32; from++) {
            for (int to = 0; to < from; to++) {
                checkRefused(x, from * 13 % 32, to * 13 % 32);
            }
        }
        for (int from = 0; from < 32; from++) {
            for (int to = from + 2; to < 32; to++) {
                checks.superior(x, from * 13 % 32, to * 13 % 32);
            }
        }
        for (int from = 0; from < 32; from++) {
            for (int to = 0; to < 32; to++) {
                boolean recorded = x.isSuperior(from * 13 % 32, to * 13 % 32);
                checks.due("isSuperior among all pairs of an order", recorded, from < to);
            }
        }
    }

    private static void takesManyPathsWithoutCycle() {
        DefeasibleLogic x = withRules(5);
        checks.superior(x, 0, 1);
        checks.superior(x, 0, 2);
        checks.superior(x, 1, 3);
        checks.superior(x, 2, 3);
        checks.superior(x, 1, 2);
        checkRefused(x, 3, 0);
        checkRefused(x, 2, 1);
        checks.superior(x, 4, 0);
        checks.due("addSuperior(3, 4), a cycle", x.addSuperior(3, 4), false);
        checks.due("isSuperior(4, 3)", x.isSuperior(4, 3), false);
        checks.superior(x, 4, 3);
    }

    private static void leavesTheRest() {
        DefeasibleLogic x = new DefeasibleLogic(2, 3);
        x.addFact(3);
        checks.rule(x, 0, 0, 1, 2);
        checks.rule(x, 2, 3, 3);
        checks.superior(x, 1, 0);
        checks.due("isFact(3)", x.isFact(3), true);
        checks.due("isFact(0)", x.isFact(0), false);
        checks.due("ruleCount()", x.ruleCount(), 2);
        checks.due("ruleKind(1)", x.ruleKind(1), 2);
        checks.due("ruleHead(1)", x.ruleHead(1), 3);
        checks.dueBody("after addSuperior", x, 0, 1, 2);
        checks.dueBody("after addSuperior", x, 1, 3);
        x.compute();
        checks.due("isSuperior(1, 0) when computed", x.isSuperior(1, 0), true);
    }
}
