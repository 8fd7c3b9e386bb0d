/**
 * Promises 1 to 16: long runs of mixed calls, right and wrong, each answered as the reference does.
 * The runs are drawn from a fixed sequence of numbers, the same every time.
 */
public final class ReferenceTest {
    private static final Checks checks = new Checks();
    private static final int RUNS = 3000;
    private static final int[] SIZES = {1, 2, 3, 4, 5, 8, 16, 32};

    private final DefeasibleLogic x;
    private final Reference due;
    private final int atoms;
    private final String name;
    private long state;

    private ReferenceTest(int run) {
        state = run * 7919L + 17L;
        name = "run " + run;
        atoms = SIZES[below(SIZES.length)];
        int maxRules = 1 + below(32);
        x = new DefeasibleLogic(atoms, maxRules);
        due = new Reference(atoms, maxRules);
    }

    public static void main(String[] args) {
        for (int run = 0; run < RUNS && checks.clean(); run++) {
            ReferenceTest test = new ReferenceTest(run);
            int steps = 20 + test.below(120);
            for (int step = 0; step < steps; step++) {
                test.change();
                if (step % 10 == 9) {
                    test.computeAndCompare();
                }
            }
        }
        checks.finish();
    }

    private int below(int bound) {
        state = state * 6364136223846793005L + 1442695040888963407L;
        return (int) ((state >>> 33) % bound);
    }

    private int literal() {
        return below(40) == 0 ? wrong(2 * atoms) : below(2 * atoms);
    }

    private int rule() {
        return below(40) == 0 || due.ruleCount() == 0 ? wrong(due.ruleCount()) : below(due.ruleCount());
    }

    private int wrong(int firstBeyond) {
        return below(3) == 0 ? firstBeyond : Checks.FAR[below(Checks.FAR.length)];
    }

    private void change() {
        int choice = below(100);
        if (choice < 5) {
            int lit = literal();
            checks.due(name + ": addFact(" + lit + ")", x.addFact(lit), due.addFact(lit));
        } else if (choice < 35) {
            int kind = below(30) == 0 ? wrong(3) : below(3);
            int head = literal();
            checks.due(name + ": newRule(" + kind + ", " + head + ")", x.newRule(kind, head), due.newRule(kind, head));
        } else if (choice < 65) {
            int rule = rule();
            int lit = literal();
            checks.due(name + ": addBody(" + rule + ", " + lit + ")", x.addBody(rule, lit), due.addBody(rule, lit));
        } else if (choice < 99) {
            int a = rule();
            int b = rule();
            checks.due(name + ": addSuperior(" + a + ", " + b + ")", x.addSuperior(a, b), due.addSuperior(a, b));
        } else if (below(4) == 0) {
            x.reset();
            due.reset();
        }
        compareTags();
    }

    private void computeAndCompare() {
        checks.due(name + ": compute()", x.compute(), due.compute());
        compareTags();
        compareTheory();
        checkConsistency();
    }

    private void compareTags() {
        for (int tag = -1; tag <= 4; tag++) {
            checks.due(name + ": countTag(" + tag + ")", x.countTag(tag), due.countTag(tag));
            for (int lit = -1; lit <= 2 * atoms; lit++) {
                checks.due(name + ": hasTag(" + lit + ", " + tag + ")", x.hasTag(lit, tag), due.hasTag(lit, tag));
            }
        }
        for (int lit = -1; lit <= 2 * atoms; lit++) {
            checks.due(name + ": winner(" + lit + ")", x.winner(lit), due.winner(lit));
        }
    }

    private void compareTheory() {
        checks.due(name + ": ruleCount()", x.ruleCount(), due.ruleCount());
        for (int lit = -1; lit <= 2 * atoms; lit++) {
            checks.due(name + ": isFact(" + lit + ")", x.isFact(lit), due.isFact(lit));
        }
        for (int a = -1; a <= due.ruleCount(); a++) {
            checks.due(name + ": ruleKind(" + a + ")", x.ruleKind(a), due.ruleKind(a));
            checks.due(name + ": ruleHead(" + a + ")", x.ruleHead(a), due.ruleHead(a));
            for (int index = -1; index <= 4; index++) {
                checks.due(name + ": ruleBody(" + a + ", " + index + ")", x.ruleBody(a, index), due.ruleBody(a, index));
            }
            for (int b = -1; b <= due.ruleCount(); b++) {
                checks.due(name + ": isSuperior(" + a + ", " + b + ")", x.isSuperior(a, b), due.isSuperior(a, b));
            }
        }
    }

    /** What promises 13 and 14 say of every result. */
    private void checkConsistency() {
        for (int lit = 0; lit < 2 * atoms; lit++) {
            String of = name + ": tags of " + lit + " ";
            boolean plusDefinite = x.hasTag(lit, 0);
            boolean plusDefeasible = x.hasTag(lit, 2);
            checks.due(of + "+D and -D", plusDefinite && x.hasTag(lit, 1), false);
            checks.due(of + "+d and -d", plusDefeasible && x.hasTag(lit, 3), false);
            checks.due(of + "+D without +d", plusDefinite && !plusDefeasible, false);
            checks.due(of + "-d without -D", x.hasTag(lit, 3) && !x.hasTag(lit, 1), false);
            checks.due(of + "both +d, not both +D", plusDefeasible && x.hasTag(lit ^ 1, 2) && !plusDefinite, false);
        }
    }
}
