import java.util.List;
import java.util.function.BiConsumer;
import java.util.function.Consumer;

/** Theories that several tests start from. */
final class Theories {
    static final int MIXED_RULES = 5;

    private Theories() {
    }

    /**
     * Four atoms, facts on both sides of one, a rule of each kind, an empty and a full body, and the
     * chain 0 > 1 > 2 > 3. +D is 0 1 2, -D is 3 4 5 7, +d is 0 1 2 4, -d is 3 5 7, and 6 has no tag.
     */
    static DefeasibleLogic mixed(int maxRules) {
        DefeasibleLogic x = new DefeasibleLogic(4, maxRules);
        x.addFact(0);
        x.addFact(1);
        rule(x, DefeasibleLogic.STRICT, 2, 0, 1);
        rule(x, DefeasibleLogic.DEFEASIBLE, 4, 2);
        rule(x, DefeasibleLogic.DEFEASIBLE, 5);
        rule(x, DefeasibleLogic.DEFEATER, 5, 6, 7, 4, 2);
        rule(x, DefeasibleLogic.STRICT, 6, 6);
        x.addSuperior(0, 1);
        x.addSuperior(1, 2);
        x.addSuperior(2, 3);
        return x;
    }

    /** Room for three rules more. */
    static DefeasibleLogic mixed() {
        return mixed(MIXED_RULES + 3);
    }

    /** Each of the calls that set the flag false, in a form that mixed() takes. */
    static List<Consumer<DefeasibleLogic>> changes() {
        return List.of(
            x -> x.addFact(7),
            x -> x.newRule(0, 0),
            x -> x.addBody(2, 0),
            x -> x.addSuperior(3, 4),
            DefeasibleLogic::reset);
    }

    /** As many rules as there may be. */
    static DefeasibleLogic full() {
        return mixed(MIXED_RULES);
    }

    /** Every literal a fact, 32 rules with full bodies, and every pair of an order. */
    static DefeasibleLogic packed() {
        DefeasibleLogic x = new DefeasibleLogic(32, 32);
        for (int lit = 0; lit < 64; lit++) {
            x.addFact(lit);
        }
        for (int rule = 0; rule < 32; rule++) {
            rule(x, rule % 3, 63 - rule, rule, rule + 8, rule + 16, rule + 24);
        }
        for (int stronger = 0; stronger < 32; stronger++) {
            for (int weaker = stronger + 1; weaker < 32; weaker++) {
                x.addSuperior(stronger, weaker);
            }
        }
        return x;
    }

    static DefeasibleLogic withRules(int count) {
        DefeasibleLogic x = new DefeasibleLogic(32, 32);
        for (int rule = 0; rule < count; rule++) {
            x.newRule(rule % 3, rule % 64);
        }
        return x;
    }

    /** Every theory of one atom with two rules: each set of facts, kind, head, body and pair. */
    static void forEachSmall(BiConsumer<String, DefeasibleLogic> check) {
        for (int facts = 0; facts < 4; facts++) {
            for (int rules = 0; rules < 24 * 24; rules++) {
                for (int pair = 0; pair < 3; pair++) {
                    String name = "facts " + facts + ", rules " + rules / 24 + " " + rules % 24 + ", pair " + pair;
                    check.accept(name, small(facts, rules, pair));
                }
            }
        }
    }

    private static DefeasibleLogic small(int facts, int rules, int pair) {
        int[][] sets = {{}, {0}, {1}, {0, 1}};
        DefeasibleLogic x = new DefeasibleLogic(1, 2);
        for (int fact : sets[facts]) {
            x.addFact(fact);
        }
        for (int shape : new int[] {rules / 24, rules % 24}) {
            rule(x, shape / 8, shape / 4 % 2, sets[shape % 4]);
        }
        if (pair > 0) {
            x.addSuperior(pair - 1, 2 - pair);
        }
        return x;
    }

    static int rule(DefeasibleLogic x, int kind, int head, int... body) {
        int rule = x.newRule(kind, head);
        for (int lit : body) {
            x.addBody(rule, lit);
        }
        return rule;
    }
}
