/** Promise 1: a test for each sentence that names a boundary case. */
public final class Boundary01ConstructionTest {
    private static final Checks checks = new Checks();
    private static final int[] BELOW = {
        0, -1, -2, -31, -32, -33, -64, -256, -(1 << 30), Integer.MIN_VALUE + 1, Integer.MIN_VALUE + 32, Integer.MIN_VALUE
    };
    private static final int[] ABOVE = {
        33, 34, 63, 64, 65, 256, 257, 1 << 16, (1 << 16) + 1, 1 << 30, (1 << 30) + 1,
        Integer.MAX_VALUE - 1, Integer.MAX_VALUE
    };

    public static void main(String[] args) {
        checks.test("never fails for any int arguments.", Boundary01ConstructionTest::neverFails);
        checks.test("atoms: any value below 1 (including 0, negative values and Integer.MIN_VALUE) becomes 1",
            Boundary01ConstructionTest::fewAtoms);
        checks.test("atoms: any value above 32 (including Integer.MAX_VALUE) becomes 32",
            Boundary01ConstructionTest::manyAtoms);
        checks.test("atoms: any value in between is kept", Boundary01ConstructionTest::atomsKept);
        checks.test("maxRules is clamped the same way: any value below 1 becomes 1", Boundary01ConstructionTest::fewRules);
        checks.test("maxRules is clamped the same way: any value above 32 becomes 32",
            Boundary01ConstructionTest::manyRules);
        checks.test("maxRules is clamped the same way: any value in between is kept",
            Boundary01ConstructionTest::ruleLimitKept);
        checks.test("The new object has no facts", Boundary01ConstructionTest::noFacts);
        checks.test("The new object has no rules (ruleCount() is 0)", Boundary01ConstructionTest::noRules);
        checks.test("The new object has no recorded pairs", Boundary01ConstructionTest::noPairs);
        checks.test("The new object: the flag is false", Boundary01ConstructionTest::flagFalse);
        checks.test("A and M never change afterwards.", Boundary01ConstructionTest::limitsStay);
        checks.finish();
    }

    private static void dueLimits(String name, DefeasibleLogic x, int atoms, int maxRules) {
        dueAtoms(name, x, atoms);
        dueRuleLimit(name, x, maxRules);
    }

    /**
     * A shows in the literals that are taken, and in the tags: every one that is no fact is in -D. The ints
     * beyond are tried first, while what they might wrap round to is no fact.
     */
    private static void dueAtoms(String name, DefeasibleLogic x, int atoms) {
        x.reset();
        x.compute();
        checks.due(name + ": countTag(1)", x.countTag(1), 2 * atoms);
        for (int lit = 130; lit >= -2; lit--) {
            checks.due(name + ": addFact(" + lit + ")", x.addFact(lit), lit >= 0 && lit < 2 * atoms);
        }
        checks.due(name + ": isFact(" + 2 * atoms + ")", x.isFact(2 * atoms), false);
    }

    private static void dueRuleLimit(String name, DefeasibleLogic x, int maxRules) {
        x.reset();
        for (int rule = 0; rule < 34; rule++) {
            checks.due(name + ": newRule, call " + rule, x.newRule(1, 0), rule < maxRules ? rule : -1);
        }
        checks.due(name + ": ruleCount()", x.ruleCount(), maxRules);
    }

    private static void neverFails() {
        for (int bit = 0; bit < 32; bit++) {
            for (int other = 0; other < 32; other++) {
                for (int near = -1; near <= 1; near++) {
                    DefeasibleLogic x = new DefeasibleLogic((1 << bit) + near, (1 << other) - near);
                    String made = "new(2^" + bit + " + " + near + ", 2^" + other + " - " + near + ")";
                    checks.due(made + ": compute()", x.compute(), 0);
                }
            }
        }
    }

    private static void fewAtoms() {
        for (int atoms : BELOW) {
            dueAtoms("new(" + atoms + ", 1)", new DefeasibleLogic(atoms, 1), 1);
            dueLimits("new(" + atoms + ", 32)", new DefeasibleLogic(atoms, 32), 1, 32);
        }
    }

    private static void manyAtoms() {
        for (int atoms : ABOVE) {
            dueAtoms("new(" + atoms + ", 32)", new DefeasibleLogic(atoms, 32), 32);
            dueLimits("new(" + atoms + ", 1)", new DefeasibleLogic(atoms, 1), 32, 1);
        }
    }

    private static void atomsKept() {
        for (int atoms = 1; atoms <= 32; atoms++) {
            dueAtoms("new(" + atoms + ", 5)", new DefeasibleLogic(atoms, 5), atoms);
        }
    }

    private static void fewRules() {
        for (int maxRules : BELOW) {
            dueRuleLimit("new(1, " + maxRules + ")", new DefeasibleLogic(1, maxRules), 1);
            dueLimits("new(32, " + maxRules + ")", new DefeasibleLogic(32, maxRules), 32, 1);
        }
    }

    private static void manyRules() {
        for (int maxRules : ABOVE) {
            dueRuleLimit("new(32, " + maxRules + ")", new DefeasibleLogic(32, maxRules), 32);
            dueLimits("new(1, " + maxRules + ")", new DefeasibleLogic(1, maxRules), 1, 32);
        }
    }

    private static void ruleLimitKept() {
        for (int maxRules = 1; maxRules <= 32; maxRules++) {
            dueRuleLimit("new(5, " + maxRules + ")", new DefeasibleLogic(5, maxRules), maxRules);
        }
    }

    private static void noFacts() {
        for (int size = 1; size <= 32; size++) {
            DefeasibleLogic x = new DefeasibleLogic(size, size);
            for (int lit = 0; lit < 64; lit++) {
                checks.due("new(" + size + ", " + size + "): isFact(" + lit + ")", x.isFact(lit), false);
            }
        }
    }

    private static void noRules() {
        for (int size = 1; size <= 32; size++) {
            DefeasibleLogic x = new DefeasibleLogic(size, size);
            checks.due("new(" + size + ", " + size + "): ruleCount()", x.ruleCount(), 0);
            for (int rule = 0; rule < 32; rule++) {
                checks.due("new(" + size + ", " + size + "): ruleKind(" + rule + ")", x.ruleKind(rule), -1);
                checks.due("new(" + size + ", " + size + "): ruleHead(" + rule + ")", x.ruleHead(rule), -1);
                checks.due("new(" + size + ", " + size + "): ruleBody(" + rule + ", 0)", x.ruleBody(rule, 0), -1);
            }
        }
    }

    /** Neither before there are rules nor when they are made. */
    private static void noPairs() {
        DefeasibleLogic x = new DefeasibleLogic(32, 32);
        for (int count = 0; count <= 32; count++) {
            for (int pair = 0; pair < 32 * 32; pair++) {
                checks.due(count + " rules: isSuperior(" + pair / 32 + ", " + pair % 32 + ")",
                    x.isSuperior(pair / 32, pair % 32), false);
            }
            x.newRule(1, 0);
        }
    }

    private static void flagFalse() {
        for (int size : new int[] {Integer.MIN_VALUE, 0, 1, 2, 31, 32, 33, Integer.MAX_VALUE}) {
            checks.dueNotComputed("new(" + size + ", " + size + ")", new DefeasibleLogic(size, size));
        }
    }

    private static void limitsStay() {
        for (int atoms = 1; atoms <= 32; atoms++) {
            int maxRules = 33 - atoms;
            DefeasibleLogic x = new DefeasibleLogic(atoms, maxRules);
            for (int turn = 0; turn < 3; turn++) {
                dueLimits("new(" + atoms + ", " + maxRules + "), turn " + turn, x, atoms, maxRules);
                Transcript.future(x);
            }
        }
    }
}
