/** Collects the calls whose answer is not the one that is due. */
final class Checks {
    /** Ints that no literal, rule, kind, tag or body index may be, beside the ones near a limit. */
    static final int[] FAR = {
        Integer.MIN_VALUE, Integer.MIN_VALUE + 1, -64, -32, -3, -2, -1,
        64, 65, 128, 256, 1 << 30, Integer.MAX_VALUE - 1, Integer.MAX_VALUE
    };

    private int wrong = 0;

    void due(String call, long got, long want) {
        if (got != want) {
            wrong++;
            System.out.println(call + " answered " + got + ", due is " + want);
        }
    }

    void due(String call, boolean got, boolean want) {
        if (got != want) {
            wrong++;
            System.out.println(call + " answered " + got + ", due is " + want);
        }
    }

    /** The literals of 'want' have the tag, and no other int from -2 to 66 has it. */
    void dueTagged(String name, DefeasibleLogic x, int tag, int... want) {
        for (int lit = -2; lit <= 66; lit++) {
            boolean wanted = false;
            for (int literal : want) {
                wanted |= literal == lit;
            }
            due(name + ": hasTag(" + lit + ", " + tag + ")", x.hasTag(lit, tag), wanted);
        }
        due(name + ": countTag(" + tag + ")", x.countTag(tag), want.length);
    }

    void dueBody(String name, DefeasibleLogic x, int rule, int... want) {
        for (int index = -2; index <= 6; index++) {
            int wanted = index >= 0 && index < want.length ? want[index] : -1;
            due(name + ": ruleBody(" + rule + ", " + index + ")", x.ruleBody(rule, index), wanted);
        }
    }

    /** Adds a rule with its body; the test goes on only if nothing of it is refused. */
    int rule(DefeasibleLogic x, int kind, int head, int... body) {
        int rule = x.newRule(kind, head);
        due("newRule(" + kind + ", " + head + ") is taken", rule >= 0, true);
        for (int lit : body) {
            due("addBody(" + rule + ", " + lit + ")", x.addBody(rule, lit), true);
        }
        return rule;
    }

    void superior(DefeasibleLogic x, int stronger, int weaker) {
        due("addSuperior(" + stronger + ", " + weaker + ")", x.addSuperior(stronger, weaker), true);
    }

    boolean clean() {
        return wrong == 0;
    }

    /** Ends the test: with exit code 1 if an answer was wrong. */
    void finish() {
        System.out.println(wrong == 0 ? "all answers are as due" : wrong + " answers are not as due");
        if (wrong != 0) {
            System.exit(1);
        }
    }
}
