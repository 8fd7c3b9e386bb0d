/** Promise 2: reset takes the theory away and keeps the limits. */
public final class ResetTest {
    private static final Checks checks = new Checks();

    public static void main(String[] args) {
        emptiesAFullTheory();
        leavesNothingInANewRule();
        leavesNoOldPair();
        actsOnAnEmptyObject();
        keepsTheLimits();
        checks.finish();
    }

    private static DefeasibleLogic fullTheory() {
        DefeasibleLogic x = new DefeasibleLogic(3, 4);
        x.addFact(0);
        x.addFact(1);
        x.addFact(5);
        checks.rule(x, 0, 2, 0, 1, 5, 4);
        checks.rule(x, 1, 3, 0);
        checks.rule(x, 2, 4, 3, 2);
        checks.rule(x, 1, 5);
        checks.superior(x, 0, 1);
        checks.superior(x, 1, 2);
        checks.superior(x, 0, 3);
        x.compute();
        return x;
    }

    private static void emptiesAFullTheory() {
        DefeasibleLogic x = fullTheory();
        x.reset();
        checkEmpty("after reset", x);
        x.reset();
        checkEmpty("after a second reset", x);
        checks.due("compute() of the empty theory", x.compute(), 0);
        checks.dueTagged("empty theory", x, 1, 0, 1, 2, 3, 4, 5);
        checks.dueTagged("empty theory", x, 3, 0, 1, 2, 3, 4, 5);
    }

    private static void checkEmpty(String name, DefeasibleLogic x) {
        checks.due(name + ": ruleCount()", x.ruleCount(), 0);
        for (int lit = 0; lit < 6; lit++) {
            checks.due(name + ": isFact(" + lit + ")", x.isFact(lit), false);
            checks.due(name + ": winner(" + lit + ")", x.winner(lit), -2);
        }
        for (int rule = 0; rule < 4; rule++) {
            checks.due(name + ": ruleKind(" + rule + ")", x.ruleKind(rule), -1);
            checks.due(name + ": ruleHead(" + rule + ")", x.ruleHead(rule), -1);
            checks.due(name + ": ruleBody(" + rule + ", 0)", x.ruleBody(rule, 0), -1);
            for (int other = 0; other < 4; other++) {
                checks.due(name + ": isSuperior", x.isSuperior(rule, other), false);
            }
        }
        for (int tag = 0; tag < 4; tag++) {
            checks.due(name + ": countTag(" + tag + ")", x.countTag(tag), -2);
            checks.due(name + ": hasTag(0, " + tag + ")", x.hasTag(0, tag), false);
        }
    }

    private static void leavesNothingInANewRule() {
        DefeasibleLogic x = fullTheory();
        x.reset();
        checks.due("newRule(1, 4) after reset", x.newRule(1, 4), 0);
        checks.due("ruleKind(0) after reset", x.ruleKind(0), 1);
        checks.due("ruleHead(0) after reset", x.ruleHead(0), 4);
        checks.dueBody("after reset", x, 0);
        checks.due("compute() after reset", x.compute(), 1);
        checks.dueTagged("after reset", x, 2, 4);
        checks.due("addBody(0, 0), in the old body", x.addBody(0, 0), true);
        checks.dueBody("after reset and addBody", x, 0, 0);
    }

    private static void leavesNoOldPair() {
        DefeasibleLogic x = fullTheory();
        x.reset();
        for (int rule = 0; rule < 4; rule++) {
            x.newRule(1, 0);
        }
        for (int rule = 0; rule < 4; rule++) {
            for (int other = 0; other < 4; other++) {
                checks.due("isSuperior after reset", x.isSuperior(rule, other), false);
            }
        }
        checks.due("addSuperior(2, 0) against an old chain", x.addSuperior(2, 0), true);
        checks.due("addSuperior(0, 1), an old pair", x.addSuperior(0, 1), true);
    }

    private static void actsOnAnEmptyObject() {
        DefeasibleLogic x = new DefeasibleLogic(3, 4);
        x.reset();
        checkEmpty("reset of a new object", x);
        x.compute();
        x.reset();
        checkEmpty("reset of a computed empty theory", x);
    }

    private static void keepsTheLimits() {
        DefeasibleLogic x = fullTheory();
        x.reset();
        checks.due("addFact(6) after reset", x.addFact(6), false);
        checks.due("addFact(5) after reset", x.addFact(5), true);
        for (int rule = 0; rule < 4; rule++) {
            checks.due("newRule after reset", x.newRule(0, 0), rule);
        }
        checks.due("newRule beyond the limit after reset", x.newRule(0, 0), -1);
    }
}
