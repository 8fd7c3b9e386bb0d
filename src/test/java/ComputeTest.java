/** Promise 13: the four sets, clause by clause, on theories small enough to work out by hand. */
public final class ComputeTest {
    private static final Checks checks = new Checks();
    private static final int STRICT = 0;
    private static final int DEFEASIBLE = 1;
    private static final int DEFEATER = 2;

    public static void main(String[] args) {
        factsAndStrictRules();
        undecidedLoops();
        conflictOfTwoRules();
        defeaters();
        teamsAndChains();
        standingOfTheStrongerRule();
        definitePartBoundsTheDefeasible();
        bodies();
        longChains();
        computesAgain();
        checks.finish();
    }

    private static void due(String name, DefeasibleLogic x, int[]... sets) {
        checks.dueSets(name, x, sets);
    }

    private static int[] set(int... lits) {
        return lits;
    }

    private static DefeasibleLogic theory(int atoms) {
        return new DefeasibleLogic(atoms, 32);
    }

    private static void factsAndStrictRules() {
        due("empty theory", theory(2), set(), set(0, 1, 2, 3), set(), set(0, 1, 2, 3));

        DefeasibleLogic x = theory(1);
        x.addFact(0);
        due("one fact", x, set(0), set(1), set(0), set(1));
        x.addFact(1);
        due("a fact and its complement", x, set(0, 1), set(), set(0, 1), set());

        x = theory(2);
        x.addFact(0);
        checks.rule(x, STRICT, 1, 0);
        checks.rule(x, STRICT, 2, 0, 1);
        checks.rule(x, STRICT, 2, 3);
        due("strict rules prove both sides", x, set(0, 1, 2), set(3), set(0, 1, 2), set(3));

        x = theory(1);
        checks.rule(x, STRICT, 1);
        due("strict rule without body", x, set(1), set(0), set(1), set(0));

        x = theory(2);
        checks.rule(x, DEFEASIBLE, 0);
        checks.rule(x, STRICT, 2, 0);
        due("strict rule on a defeasible ground", x, set(), set(0, 1, 2, 3), set(0, 2), set(1, 3));
    }

    private static void undecidedLoops() {
        DefeasibleLogic x = theory(1);
        checks.rule(x, STRICT, 0, 0);
        due("strict loop", x, set(), set(1), set(), set(1));
        x.addFact(1);
        due("-d needs -D, though the complement is a fact", x, set(1), set(), set(1), set());

        x = theory(1);
        checks.rule(x, DEFEASIBLE, 0, 0);
        due("defeasible loop", x, set(), set(0, 1), set(), set(1));

        x = theory(1);
        checks.rule(x, DEFEATER, 0, 0);
        due("a defeater is no loop", x, set(), set(0, 1), set(), set(0, 1));

        x = theory(2);
        checks.rule(x, STRICT, 0, 2);
        checks.rule(x, STRICT, 2, 0);
        checks.rule(x, STRICT, 0, 1);
        due("strict loop of two", x, set(), set(1, 3), set(), set(1, 3));
    }

    private static void conflictOfTwoRules() {
        DefeasibleLogic x = theory(1);
        checks.rule(x, DEFEASIBLE, 0);
        due("no conflict", x, set(), set(0, 1), set(0), set(1));
        checks.rule(x, DEFEASIBLE, 1);
        due("two equal rules", x, set(), set(0, 1), set(), set(0, 1));
        checks.superior(x, 1, 0);
        due("the second is superior", x, set(), set(0, 1), set(1), set(0));

        x = theory(2);
        checks.rule(x, DEFEASIBLE, 0);
        checks.rule(x, DEFEASIBLE, 1, 2);
        due("an attack with a body in -d", x, set(), set(0, 1, 2, 3), set(0), set(1, 2, 3));
        checks.rule(x, DEFEASIBLE, 2, 2);
        due("an attack with an undecided body", x, set(), set(0, 1, 2, 3), set(), set(1, 3));

        x = theory(1);
        checks.rule(x, DEFEASIBLE, 0, 1);
        checks.rule(x, DEFEASIBLE, 1, 0);
        due("each attacks its own ground", x, set(), set(0, 1), set(), set());
    }

    private static void defeaters() {
        DefeasibleLogic x = theory(1);
        checks.rule(x, DEFEATER, 0);
        due("a defeater supports nothing", x, set(), set(0, 1), set(), set(0, 1));
        checks.rule(x, DEFEASIBLE, 1);
        due("a defeater blocks", x, set(), set(0, 1), set(), set(0, 1));
        checks.superior(x, 1, 0);
        due("a defeater is beaten", x, set(), set(0, 1), set(1), set(0));

        x = theory(1);
        checks.rule(x, DEFEASIBLE, 0);
        checks.rule(x, DEFEATER, 0);
        checks.rule(x, DEFEASIBLE, 1);
        checks.superior(x, 1, 2);
        due("a defeater beats nothing for its head", x, set(), set(0, 1), set(), set(0, 1));
        checks.superior(x, 2, 0);
        due("it still blocks the other side", x, set(), set(0, 1), set(), set(0, 1));

        x = theory(2);
        checks.rule(x, DEFEATER, 0, 2);
        checks.rule(x, DEFEASIBLE, 1);
        due("a defeater with a body in -d", x, set(), set(0, 1, 2, 3), set(1), set(0, 2, 3));
        x.addFact(2);
        due("a defeater with a body in +d", x, set(2), set(0, 1, 3), set(2), set(0, 1, 3));
    }

    private static void teamsAndChains() {
        DefeasibleLogic x = theory(1);
        checks.rule(x, DEFEASIBLE, 0);
        checks.rule(x, DEFEASIBLE, 0);
        checks.rule(x, DEFEASIBLE, 1);
        checks.rule(x, DEFEASIBLE, 1);
        checks.superior(x, 0, 2);
        due("half a team", x, set(), set(0, 1), set(), set(0, 1));
        checks.superior(x, 1, 3);
        due("a team", x, set(), set(0, 1), set(0), set(1));

        x = theory(2);
        checks.rule(x, DEFEASIBLE, 0);
        checks.rule(x, DEFEASIBLE, 2);
        checks.rule(x, DEFEASIBLE, 1);
        checks.superior(x, 0, 1);
        checks.superior(x, 1, 2);
        due("a chain of pairs is no pair", x, set(), set(0, 1, 2, 3), set(2), set(0, 1, 3));
        checks.superior(x, 0, 2);
        due("the pair itself", x, set(), set(0, 1, 2, 3), set(0, 2), set(1, 3));

        x = theory(1);
        checks.rule(x, DEFEASIBLE, 0);
        checks.rule(x, STRICT, 1, 0);
        checks.superior(x, 0, 1);
        due("a pair over a strict rule", x, set(), set(0, 1), set(0), set(1));
    }

    private static void standingOfTheStrongerRule() {
        DefeasibleLogic x = theory(2);
        checks.rule(x, DEFEASIBLE, 0, 2);
        checks.rule(x, DEFEASIBLE, 1);
        checks.rule(x, DEFEASIBLE, 0);
        checks.superior(x, 0, 1);
        due("the stronger rule has a body in -d", x, set(), set(0, 1, 2, 3), set(), set(0, 1, 2, 3));
        checks.rule(x, DEFEASIBLE, 2, 2);
        due("the stronger rule has an undecided body", x, set(), set(0, 1, 2, 3), set(), set(1, 3));
        x.addFact(2);
        due("the stronger rule has a body in +d", x, set(2), set(0, 1, 3), set(0, 2), set(1, 3));

        x = theory(2);
        checks.rule(x, DEFEASIBLE, 0, 2);
        checks.rule(x, DEFEASIBLE, 1);
        checks.rule(x, DEFEASIBLE, 2, 2);
        due("support undecided, attack stands", x, set(), set(0, 1, 2, 3), set(), set(0, 3));
    }

    private static void definitePartBoundsTheDefeasible() {
        DefeasibleLogic x = theory(1);
        checks.rule(x, DEFEASIBLE, 0);
        x.addFact(1);
        due("a fact against a rule", x, set(1), set(0), set(1), set(0));

        x = theory(1);
        checks.rule(x, DEFEASIBLE, 0);
        checks.rule(x, STRICT, 1, 1);
        due("the complement is not in -D", x, set(), set(0), set(), set());
        checks.superior(x, 0, 1);
        due("nor does a pair help", x, set(), set(0), set(), set());

        x = theory(2);
        checks.rule(x, STRICT, 0, 0);
        checks.rule(x, DEFEASIBLE, 0);
        checks.rule(x, STRICT, 1, 2);
        due("+d without -D", x, set(), set(1, 2, 3), set(0), set(1, 2, 3));

        x = theory(2);
        x.addFact(0);
        checks.rule(x, DEFEASIBLE, 1);
        checks.superior(x, 0, checks.rule(x, DEFEASIBLE, 0, 2));
        due("a fact needs no rule", x, set(0), set(1, 2, 3), set(0), set(1, 2, 3));
    }

    private static void bodies() {
        int[] body = {2, 5, 6, 9};
        for (int missing = 0; missing < 4; missing++) {
            for (int kind = STRICT; kind <= DEFEASIBLE; kind++) {
                checkFourOf(body, missing, kind);
            }
        }
        DefeasibleLogic x = theory(1);
        checks.rule(x, DEFEASIBLE, 0, 1);
        due("the body is the complement of the head", x, set(), set(0, 1), set(), set(0, 1));

        x = theory(1);
        checks.rule(x, STRICT, 0, 0, 1);
        due("one body literal in -D is enough", x, set(), set(0, 1), set(), set(0, 1));
    }

    private static void checkFourOf(int[] body, int missing, int kind) {
        DefeasibleLogic x = theory(5);
        checks.rule(x, kind, 0, body);
        for (int place = 0; place < 4; place++) {
            if (place != missing) {
                x.addFact(body[place]);
            }
        }
        String name = "kind " + kind + " without body literal " + body[missing];
        checks.due(name + ": compute()", x.compute(), 3);
        checks.due(name + ": hasTag(0, 1)", x.hasTag(0, 1), true);
        checks.due(name + ": hasTag(0, 3)", x.hasTag(0, 3), true);
        x.addFact(body[missing]);
        checks.due(name + ", then added: compute()", x.compute(), 5);
        checks.due(name + ", then added: hasTag(0, 0)", x.hasTag(0, 0), kind == STRICT);
        checks.due(name + ", then added: hasTag(0, 2)", x.hasTag(0, 2), true);
    }

    /** The rules stand against the order of the proof, so that each link takes a round. */
    private static void longChains() {
        DefeasibleLogic x = theory(32);
        for (int atom = 31; atom >= 1; atom--) {
            checks.rule(x, STRICT, 2 * atom, 2 * atom - 2);
        }
        checks.due("strict chain without a ground: compute()", x.compute(), 0);
        checks.due("strict chain without a ground: countTag(1)", x.countTag(1), 64);
        checks.due("strict chain without a ground: countTag(3)", x.countTag(3), 64);
        checks.rule(x, DEFEASIBLE, 0);
        checks.due("strict chain on a defeasible ground: compute()", x.compute(), 32);
        checks.due("strict chain on a defeasible ground: countTag(0)", x.countTag(0), 0);
        checks.due("strict chain on a defeasible ground: countTag(3)", x.countTag(3), 32);
        x.addFact(0);
        checks.due("strict chain on a fact: compute()", x.compute(), 32);
        checks.due("strict chain on a fact: countTag(0)", x.countTag(0), 32);
        checks.due("strict chain on a fact: countTag(1)", x.countTag(1), 32);

        x = theory(32);
        for (int lit = 63; lit >= 33; lit--) {
            checks.rule(x, DEFEASIBLE, lit - 1, lit);
        }
        x.addFact(63);
        checks.due("chain through complements: compute()", x.compute(), 1);
        checks.due("chain through complements: countTag(3)", x.countTag(3), 63);
    }

    private static void computesAgain() {
        DefeasibleLogic x = theory(2);
        checks.rule(x, DEFEASIBLE, 0, 2);
        checks.rule(x, DEFEASIBLE, 1);
        checks.superior(x, 0, 1);
        for (int time = 0; time < 3; time++) {
            due("compute again", x, set(), set(0, 1, 2, 3), set(1), set(0, 2, 3));
        }
        x.addFact(2);
        for (int time = 0; time < 3; time++) {
            due("compute after a change", x, set(2), set(0, 1, 3), set(0, 2), set(1, 3));
        }
        checks.due("ruleCount()", x.ruleCount(), 2);
        checks.dueBody("after compute", x, 0, 2);
        checks.dueBody("after compute", x, 1);
        checks.due("ruleKind(0)", x.ruleKind(0), DEFEASIBLE);
        checks.due("ruleHead(1)", x.ruleHead(1), 1);
        checks.due("isSuperior(0, 1)", x.isSuperior(0, 1), true);
        checks.due("isFact(2)", x.isFact(2), true);
        checks.due("isFact(0)", x.isFact(0), false);
        x.reset();
        due("compute after reset", x, set(), set(0, 1, 2, 3), set(), set(0, 1, 2, 3));
    }
}
