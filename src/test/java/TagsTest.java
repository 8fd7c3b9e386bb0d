/** Promises 14 and 15, hasTag and countTag, and when the computed flag is set and kept. */
public final class TagsTest {
    private static final Checks checks = new Checks();

    public static void main(String[] args) {
        answersPerTag();
        refusesWrongInput();
        notComputed();
        successTakesTheFlag();
        refusalKeepsTheFlag();
        queriesKeepTheFlag();
        checks.finish();
    }

    /** 0 is in +D and +d, 1 in -D and -d, 2 in -D and +d, 3 in -D and -d, 4 in nothing, 5 in -D and -d. */
    private static DefeasibleLogic computed() {
        DefeasibleLogic x = new DefeasibleLogic(3, 4);
        x.addFact(0);
        checks.rule(x, 1, 2, 0);
        checks.rule(x, 0, 4, 4);
        checks.rule(x, 2, 3, 4, 5);
        checks.superior(x, 0, 2);
        checks.due("compute()", x.compute(), 2);
        return x;
    }

    private static void checkComputed(String name, DefeasibleLogic x) {
        checks.dueTagged(name, x, DefeasibleLogic.PLUS_DEFINITE, 0);
        checks.dueTagged(name, x, DefeasibleLogic.MINUS_DEFINITE, 1, 2, 3, 5);
        checks.dueTagged(name, x, DefeasibleLogic.PLUS_DEFEASIBLE, 0, 2);
        checks.dueTagged(name, x, DefeasibleLogic.MINUS_DEFEASIBLE, 1, 3, 5);
        checks.due(name + ": winner(0)", x.winner(0), -3);
        checks.due(name + ": winner(2)", x.winner(2), 0);
        checks.due(name + ": winner(1)", x.winner(1), -1);
    }

    private static void answersPerTag() {
        checkComputed("computed", computed());
        DefeasibleLogic x = new DefeasibleLogic(32, 1);
        for (int lit = 0; lit < 64; lit++) {
            x.addFact(lit);
            checks.due("compute()", x.compute(), lit + 1);
            checks.due("countTag(0)", x.countTag(0), lit + 1);
            checks.due("countTag(1)", x.countTag(1), 63 - lit);
            checks.due("countTag(2)", x.countTag(2), lit + 1);
            checks.due("countTag(3)", x.countTag(3), 63 - lit);
            checks.due("hasTag(" + lit + ", 0)", x.hasTag(lit, 0), true);
            checks.due("hasTag(" + (lit + 1) + ", 0)", x.hasTag(lit + 1, 0), false);
        }
    }

    private static void refusesWrongInput() {
        DefeasibleLogic x = computed();
        for (int wrong : Checks.FAR) {
            checks.due("countTag(" + wrong + ")", x.countTag(wrong), -1);
            for (int good = 0; good < 6; good++) {
                checks.due("hasTag(" + good + ", " + wrong + ")", x.hasTag(good, wrong), false);
                checks.due("hasTag(" + wrong + ", " + good + ")", x.hasTag(wrong, good), false);
            }
        }
        checks.due("countTag(4)", x.countTag(4), -1);
        checks.due("countTag(5)", x.countTag(5), -1);
        for (int lit = 0; lit < 6; lit++) {
            checks.due("hasTag(" + lit + ", 4)", x.hasTag(lit, 4), false);
        }
        for (int tag = 0; tag < 4; tag++) {
            checks.due("hasTag(6, " + tag + ")", x.hasTag(6, tag), false);
        }
    }

    private static void notComputed() {
        DefeasibleLogic x = new DefeasibleLogic(3, 4);
        checks.dueNotComputed("new object", x);
        x.addFact(0);
        checks.dueNotComputed("before the first compute", x);
    }

    private static void successTakesTheFlag() {
        DefeasibleLogic x = computed();
        checks.due("addFact(1)", x.addFact(1), true);
        checks.dueNotComputed("after addFact", x);

        x = computed();
        checks.due("newRule(2, 5)", x.newRule(2, 5), 3);
        checks.dueNotComputed("after newRule", x);

        x = computed();
        checks.due("addBody(0, 1)", x.addBody(0, 1), true);
        checks.dueNotComputed("after addBody", x);

        x = computed();
        checks.due("addSuperior(0, 1)", x.addSuperior(0, 1), true);
        checks.dueNotComputed("after addSuperior", x);

        x = computed();
        x.reset();
        checks.dueNotComputed("after reset", x);

        x = new DefeasibleLogic(3, 4);
        x.compute();
        x.reset();
        checks.dueNotComputed("after reset of an empty theory", x);
    }

    private static void refusalKeepsTheFlag() {
        DefeasibleLogic x = computed();
        checks.due("addFact(0) again", x.addFact(0), false);
        checks.due("addFact(6)", x.addFact(6), false);
        checks.due("addFact(-1)", x.addFact(-1), false);
        checkComputed("after refused addFact", x);

        checks.due("newRule(3, 0)", x.newRule(3, 0), -1);
        checks.due("newRule(-1, 0)", x.newRule(-1, 0), -1);
        checks.due("newRule(0, 6)", x.newRule(0, 6), -1);
        checkComputed("after refused newRule", x);

        checks.due("addBody(3, 0)", x.addBody(3, 0), false);
        checks.due("addBody(0, 6)", x.addBody(0, 6), false);
        checks.due("addBody(0, 0) again", x.addBody(0, 0), false);
        checkComputed("after refused addBody", x);

        checks.due("addSuperior(0, 3)", x.addSuperior(0, 3), false);
        checks.due("addSuperior(3, 0)", x.addSuperior(3, 0), false);
        checks.due("addSuperior(1, 1)", x.addSuperior(1, 1), false);
        checks.due("addSuperior(0, 2) again", x.addSuperior(0, 2), false);
        checks.due("addSuperior(2, 0), a cycle", x.addSuperior(2, 0), false);
        checkComputed("after refused addSuperior", x);
        fullRefusalsKeepTheFlag();
    }

    private static void fullRefusalsKeepTheFlag() {
        DefeasibleLogic x = new DefeasibleLogic(3, 1);
        checks.rule(x, 1, 0, 0, 1, 2, 3);
        checks.due("compute()", x.compute(), 0);
        checks.due("newRule(0, 0) at the limit", x.newRule(0, 0), -1);
        checks.due("countTag(3) after it", x.countTag(3), 6);
        checks.due("addBody(0, 4) to a full body", x.addBody(0, 4), false);
        checks.due("countTag(3) after it", x.countTag(3), 6);
    }

    private static void queriesKeepTheFlag() {
        DefeasibleLogic x = computed();
        for (int value = -2; value <= 7; value++) {
            x.isFact(value);
            x.ruleCount();
            x.ruleKind(value);
            x.ruleHead(value);
            x.winner(value);
            x.countTag(value);
            for (int other = -2; other <= 7; other++) {
                x.isSuperior(value, other);
                x.ruleBody(value, other);
                x.hasTag(value, other);
            }
        }
        checkComputed("after queries", x);
        x.addFact(5);
        x.isFact(0);
        x.hasTag(0, 0);
        x.countTag(0);
        x.winner(0);
        checks.dueNotComputed("queries do not compute", x);
    }
}
