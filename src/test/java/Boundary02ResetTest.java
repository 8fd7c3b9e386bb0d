import java.util.List;
import java.util.function.Supplier;

/** Promise 2: a test for each sentence that names a boundary case. */
public final class Boundary02ResetTest {
    private static final Checks checks = new Checks();

    public static void main(String[] args) {
        checks.test("reset() removes all facts", Boundary02ResetTest::removesFacts);
        checks.test("reset() removes all rules", Boundary02ResetTest::removesRules);
        checks.test("reset() removes all recorded pairs", Boundary02ResetTest::removesPairs);
        checks.test("and sets the flag false.", Boundary02ResetTest::setsTheFlagFalse);
        checks.test("Afterwards ruleCount() is 0, no literal is a fact, no pair is recorded, and tag queries answer the "
            + "not-computed case.", Boundary02ResetTest::afterwards);
        checks.test("A and M are kept.", Boundary02ResetTest::keepsTheLimits);
        checks.test("reset is never refused and acts the same whether or not anything existed before.",
            Boundary02ResetTest::actsTheSame);
        checks.finish();
    }

    /** Of one literal, of a literal with its complement, and of all; also from the sets computed later. */
    private static void removesFacts() {
        for (int lit = 0; lit < 64; lit++) {
            DefeasibleLogic x = new DefeasibleLogic(32, 1);
            x.addFact(lit);
            x.addFact(lit ^ 1);
            x.reset();
            checks.due("isFact(" + lit + ")", x.isFact(lit), false);
            checks.due("isFact(" + (lit ^ 1) + ")", x.isFact(lit ^ 1), false);
            checks.due("compute()", x.compute(), 0);
            checks.due("addFact(" + lit + ") again", x.addFact(lit), true);
        }
        DefeasibleLogic x = Theories.packed();
        x.reset();
        for (int lit = 0; lit < 64; lit++) {
            checks.due("packed: isFact(" + lit + ")", x.isFact(lit), false);
        }
    }

    /** Nor does a rule made later find anything of the one that had its number. */
    private static void removesRules() {
        DefeasibleLogic x = Theories.packed();
        x.reset();
        checks.due("ruleCount()", x.ruleCount(), 0);
        for (int rule = 0; rule < 32; rule++) {
            checks.due("ruleKind(" + rule + ")", x.ruleKind(rule), -1);
            checks.due("ruleHead(" + rule + ")", x.ruleHead(rule), -1);
            checks.dueBody("removed", x, rule);
            checks.due("addBody(" + rule + ", 0)", x.addBody(rule, 0), false);
        }
        checks.due("compute()", x.compute(), 0);
        checks.due("countTag(3)", x.countTag(3), 64);
        for (int rule = 0; rule < 32; rule++) {
            checks.due("newRule", x.newRule(1, 2 * rule), rule);
            checks.due("ruleKind of the new rule " + rule, x.ruleKind(rule), 1);
            checks.due("ruleHead of the new rule " + rule, x.ruleHead(rule), 2 * rule);
            checks.dueBody("the new rule", x, rule);
        }
        checks.due("compute() with empty bodies", x.compute(), 32);
        for (int rule = 0; rule < 32; rule++) {
            checks.due("addBody of a literal of the old body of " + rule, x.addBody(rule, rule), true);
            checks.dueBody("the new rule", x, rule, rule);
        }
    }

    /** Nor does a pair of rules made later stand, or close a cycle, by what was recorded before. */
    private static void removesPairs() {
        for (int stronger = 0; stronger < 32; stronger++) {
            DefeasibleLogic x = Theories.packed();
            x.reset();
            for (int rule = 0; rule < 32; rule++) {
                x.newRule(1, rule);
            }
            for (int weaker = 0; weaker < 32; weaker++) {
                checks.due("isSuperior(" + stronger + ", " + weaker + ")", x.isSuperior(stronger, weaker), false);
                boolean due = weaker != stronger;
                checks.due("addSuperior(" + stronger + ", " + weaker + ")", x.addSuperior(stronger, weaker), due);
            }
        }
        DefeasibleLogic x = new DefeasibleLogic(1, 2);
        checks.rule(x, 1, 0);
        checks.rule(x, 1, 1);
        checks.superior(x, 0, 1);
        checks.due("compute() with the pair", x.compute(), 1);
        x.reset();
        checks.rule(x, 1, 0);
        checks.rule(x, 1, 1);
        checks.due("compute() without the pair", x.compute(), 0);
    }

    private static void setsTheFlagFalse() {
        for (Case before : cases()) {
            DefeasibleLogic x = before.make().get();
            x.compute();
            x.reset();
            checks.dueNotComputed("reset", x);
        }
    }

    private static void afterwards() {
        for (Case before : cases()) {
            DefeasibleLogic x = before.make().get();
            x.reset();
            checks.due("ruleCount()", x.ruleCount(), 0);
            for (int lit = 0; lit < 64; lit++) {
                checks.due("isFact(" + lit + ")", x.isFact(lit), false);
            }
            for (int pair = 0; pair < 32 * 32; pair++) {
                checks.due("isSuperior", x.isSuperior(pair / 32, pair % 32), false);
            }
            checks.dueNotComputed("afterwards", x);
        }
    }

    private static void keepsTheLimits() {
        for (int size = 1; size <= 32; size++) {
            int maxRules = 33 - size;
            DefeasibleLogic x = new DefeasibleLogic(size, maxRules);
            for (int turn = 0; turn < 2; turn++) {
                for (int lit = -1; lit <= 64; lit++) {
                    checks.due("addFact(" + lit + ")", x.addFact(lit), lit >= 0 && lit < 2 * size);
                }
                for (int rule = 0; rule < 34; rule++) {
                    checks.due("newRule", x.newRule(0, 2 * size - 1), rule < maxRules ? rule : -1);
                }
                x.reset();
            }
        }
    }

    /** No later call tells a reset object from a new one. */
    private static void actsTheSame() {
        for (Case before : cases()) {
            for (int times = 1; times <= 3; times++) {
                DefeasibleLogic x = before.make().get();
                DefeasibleLogic computed = Checks.computed(before.make()).get();
                for (int time = 0; time < times; time++) {
                    x.reset();
                    computed.reset();
                }
                String want = Transcript.queries(before.empty());
                String future = Transcript.future(before.empty());
                checks.dueSame("queries after reset", Transcript.queries(x), want);
                checks.dueSame("queries after compute and reset", Transcript.queries(computed), want);
                checks.dueSame("calls after reset", Transcript.future(x), future);
                checks.dueSame("calls after compute and reset", Transcript.future(computed), future);
            }
        }
    }

    private record Case(int atoms, int maxRules, Supplier<DefeasibleLogic> make) {
        DefeasibleLogic empty() {
            return new DefeasibleLogic(atoms, maxRules);
        }
    }

    /** What may exist before: nothing, some of it, or all that there is room for. */
    private static List<Case> cases() {
        return List.of(
            new Case(1, 1, () -> new DefeasibleLogic(1, 1)),
            new Case(32, 32, () -> new DefeasibleLogic(32, 32)),
            new Case(3, 7, Boundary02ResetTest::factsAlone),
            new Case(32, 32, () -> Theories.withRules(32)),
            new Case(4, Theories.MIXED_RULES + 3, Theories::mixed),
            new Case(4, Theories.MIXED_RULES, Theories::full),
            new Case(32, 32, Theories::packed));
    }

    private static DefeasibleLogic factsAlone() {
        DefeasibleLogic x = new DefeasibleLogic(3, 7);
        x.addFact(0);
        x.addFact(1);
        x.addFact(5);
        return x;
    }
}
