/** Promises 5, 6 and 9 to 12: newRule, addBody, ruleCount, ruleKind, ruleHead and ruleBody. */
public final class RulesTest {
    private static final Checks checks = new Checks();

    public static void main(String[] args) {
        newRuleKeepsKindAndHead();
        newRuleRefusesWrongInput();
        newRuleStopsAtTheLimit();
        newRuleLeavesTheRest();
        addBodyKeepsTheOrder();
        addBodyRefusesWrongInput();
        addBodyStopsAtFour();
        addBodyTakesHeadAndComplement();
        everyRuleHasItsOwnBody();
        gettersAnswerNoneForNoRule();
        checks.finish();
    }

    private static void newRuleKeepsKindAndHead() {
        for (int kind = 0; kind < 3; kind++) {
            for (int head = 0; head < 64; head++) {
                DefeasibleLogic x = new DefeasibleLogic(32, 32);
                String call = "newRule(" + kind + ", " + head + ")";
                checks.due(call, x.newRule(kind, head), 0);
                checks.due(call + ", ruleKind(0)", x.ruleKind(0), kind);
                checks.due(call + ", ruleHead(0)", x.ruleHead(0), head);
                checks.due(call + ", ruleCount()", x.ruleCount(), 1);
                checks.dueBody(call, x, 0);
            }
        }
    }

    private static void newRuleRefusesWrongInput() {
        DefeasibleLogic x = new DefeasibleLogic(3, 8);
        for (int wrong : Checks.FAR) {
            checks.due("newRule(" + wrong + ", 0)", x.newRule(wrong, 0), -1);
            checks.due("newRule(0, " + wrong + ")", x.newRule(0, wrong), -1);
            checks.due("newRule(" + wrong + ", " + wrong + ")", x.newRule(wrong, wrong), -1);
        }
        checks.due("newRule(3, 0)", x.newRule(3, 0), -1);
        checks.due("newRule(4, 0)", x.newRule(4, 0), -1);
        checks.due("newRule(1, 6)", x.newRule(1, 6), -1);
        checks.due("ruleCount() after refusals", x.ruleCount(), 0);
        checks.due("newRule(1, 5)", x.newRule(1, 5), 0);
    }

    private static void newRuleStopsAtTheLimit() {
        for (int limit = 1; limit <= 32; limit++) {
            DefeasibleLogic x = new DefeasibleLogic(32, limit);
            for (int rule = 0; rule < limit; rule++) {
                checks.due("ruleCount()", x.ruleCount(), rule);
                checks.due("newRule", x.newRule(rule % 3, 2 * rule + 1), rule);
            }
            checks.due("newRule at the limit", x.newRule(0, 0), -1);
            checks.due("ruleCount() at the limit", x.ruleCount(), limit);
            for (int rule = 0; rule < limit; rule++) {
                checks.due("ruleKind(" + rule + ")", x.ruleKind(rule), rule % 3);
                checks.due("ruleHead(" + rule + ")", x.ruleHead(rule), 2 * rule + 1);
            }
        }
    }

    private static void newRuleLeavesTheRest() {
        DefeasibleLogic x = new DefeasibleLogic(3, 3);
        x.addFact(4);
        checks.rule(x, 2, 5, 1, 0);
        checks.rule(x, 0, 2);
        checks.superior(x, 1, 0);
        checks.due("newRule(1, 3)", x.newRule(1, 3), 2);
        checks.due("ruleKind(0)", x.ruleKind(0), 2);
        checks.due("ruleHead(0)", x.ruleHead(0), 5);
        checks.dueBody("after newRule", x, 0, 1, 0);
        checks.dueBody("after newRule", x, 2);
        checks.due("isFact(4)", x.isFact(4), true);
        checks.due("isFact(3)", x.isFact(3), false);
        checks.due("isSuperior(1, 0)", x.isSuperior(1, 0), true);
        checks.due("isSuperior(2, 0)", x.isSuperior(2, 0), false);
    }

    private static void addBodyKeepsTheOrder() {
        DefeasibleLogic x = new DefeasibleLogic(32, 2);
        x.newRule(1, 0);
        checks.due("addBody(0, 63)", x.addBody(0, 63), true);
        checks.dueBody("one literal", x, 0, 63);
        checks.due("addBody(0, 7)", x.addBody(0, 7), true);
        checks.dueBody("two literals", x, 0, 63, 7);
        checks.due("addBody(0, 6)", x.addBody(0, 6), true);
        checks.dueBody("three literals", x, 0, 63, 7, 6);
        checks.due("addBody(0, 31)", x.addBody(0, 31), true);
        checks.dueBody("four literals", x, 0, 63, 7, 6, 31);
        checks.due("ruleKind(0)", x.ruleKind(0), 1);
        checks.due("ruleHead(0)", x.ruleHead(0), 0);
    }

    private static void addBodyRefusesWrongInput() {
        DefeasibleLogic x = new DefeasibleLogic(3, 8);
        checks.due("addBody(0, 0) without rules", x.addBody(0, 0), false);
        x.newRule(0, 0);
        x.newRule(1, 1);
        for (int wrong : Checks.FAR) {
            checks.due("addBody(" + wrong + ", 0)", x.addBody(wrong, 0), false);
            checks.due("addBody(0, " + wrong + ")", x.addBody(0, wrong), false);
        }
        checks.due("addBody(2, 0), no such rule", x.addBody(2, 0), false);
        checks.due("addBody(0, 6), no such literal", x.addBody(0, 6), false);
        checks.dueBody("after refusals", x, 0);
        checks.dueBody("after refusals", x, 1);
        checks.due("addBody(1, 5)", x.addBody(1, 5), true);
        checks.due("addBody(1, 5) again", x.addBody(1, 5), false);
        checks.due("addBody(1, 4), the complement", x.addBody(1, 4), true);
        checks.due("addBody(1, 5) a third time", x.addBody(1, 5), false);
        checks.dueBody("after doubles", x, 1, 5, 4);
        checks.due("addBody(0, 5), in another body", x.addBody(0, 5), true);
        x.newRule(2, 2);
        checks.dueBody("a new rule", x, 2);
    }

    private static void addBodyStopsAtFour() {
        DefeasibleLogic x = new DefeasibleLogic(4, 2);
        int first = checks.rule(x, 0, 0, 7, 5, 3, 1);
        int second = checks.rule(x, 0, 0);
        for (int lit = 0; lit < 8; lit++) {
            checks.due("addBody(0, " + lit + ") to a full body", x.addBody(first, lit), false);
        }
        checks.dueBody("a full body", x, first, 7, 5, 3, 1);
        checks.dueBody("the rule behind it", x, second);
    }

    private static void addBodyTakesHeadAndComplement() {
        DefeasibleLogic x = new DefeasibleLogic(1, 1);
        checks.rule(x, 1, 1, 1, 0);
        checks.dueBody("head and complement", x, 0, 1, 0);
    }

    private static void everyRuleHasItsOwnBody() {
        DefeasibleLogic x = new DefeasibleLogic(32, 32);
        x.addFact(9);
        for (int rule = 0; rule < 32; rule++) {
            x.newRule(rule % 3, rule);
        }
        checks.superior(x, 4, 3);
        for (int place = 0; place < 4; place++) {
            for (int rule = 31; rule >= 0; rule--) {
                checks.due("addBody", x.addBody(rule, (rule + place * 17) % 64), true);
            }
        }
        for (int rule = 0; rule < 32; rule++) {
            checks.dueBody("32 bodies", x, rule, rule, (rule + 17) % 64, (rule + 34) % 64, (rule + 51) % 64);
            checks.due("ruleKind(" + rule + ")", x.ruleKind(rule), rule % 3);
            checks.due("ruleHead(" + rule + ")", x.ruleHead(rule), rule);
        }
        checks.due("ruleCount()", x.ruleCount(), 32);
        checks.due("isSuperior(4, 3)", x.isSuperior(4, 3), true);
        checks.due("isFact(9)", x.isFact(9), true);
        checks.due("isFact(10)", x.isFact(10), false);
    }

    private static void gettersAnswerNoneForNoRule() {
        DefeasibleLogic x = new DefeasibleLogic(32, 32);
        checkNoRule(x, 0);
        checks.rule(x, 2, 63, 62);
        checks.rule(x, 2, 63, 62);
        checkNoRule(x, 2);
        checkNoRule(x, 31);
        checkNoRule(x, 32);
        for (int wrong : Checks.FAR) {
            checkNoRule(x, wrong);
            checks.due("ruleBody(0, " + wrong + ")", x.ruleBody(0, wrong), -1);
        }
        checks.due("ruleBody(0, 1)", x.ruleBody(0, 1), -1);
        checks.due("ruleBody(0, 4)", x.ruleBody(0, 4), -1);
        checks.due("ruleBody(1, -4)", x.ruleBody(1, -4), -1);
    }

    private static void checkNoRule(DefeasibleLogic x, int rule) {
        checks.due("ruleKind(" + rule + ")", x.ruleKind(rule), -1);
        checks.due("ruleHead(" + rule + ")", x.ruleHead(rule), -1);
        checks.dueBody("no rule", x, rule);
    }
}
