import java.util.function.Consumer;

/** Promise 16: a test for each sentence that names a boundary case. */
public final class Boundary16WinnerTest {
    private static final Checks checks = new Checks();
    private static final int STRICT = 0;
    private static final int DEFEASIBLE = 1;
    private static final int DEFEATER = 2;

    public static void main(String[] args) {
        checks.test("1. the flag is false -> NOT_COMPUTED", Boundary16WinnerTest::flagFalse);
        checks.test("2. lit is not a valid literal -> NONE", Boundary16WinnerTest::noLiteral);
        checks.test("3. lit is not in +d -> NONE", Boundary16WinnerTest::notConcluded);
        checks.test("4. lit is a fact -> BY_FACT", Boundary16WinnerTest::byFact);
        checks.test("5. lit is in +D -> the least index of a STRICT rule for lit all of whose body literals are in +D",
            Boundary16WinnerTest::byStrictRule);
        checks.test("6. otherwise -> the least index of a STRICT or DEFEASIBLE rule for lit all of whose body literals are "
            + "in +d.", Boundary16WinnerTest::bySupport);
        checks.test("Tests in order: 1 before 2", Boundary16WinnerTest::flagBeforeLiteral);
        checks.test("Tests in order: 1 before 4", Boundary16WinnerTest::flagBeforeFact);
        checks.test("Tests in order: 4 before 5", Boundary16WinnerTest::factBeforeStrictRule);
        checks.test("Tests in order: 5 before 6", Boundary16WinnerTest::strictRuleBeforeSupport);
        checks.test("The sets used are the ones last computed.", Boundary16WinnerTest::asLastComputed);
        checks.test("In cases 5 and 6 such a rule always exists, so the answer is an existing rule index.",
            Boundary16WinnerTest::alwaysARule);
        checks.test("It changes nothing.", Boundary16WinnerTest::changesNothing);
        checks.finish();
    }

    /** Of what is in +d and of what is not; never computed, and after each call that sets the flag false. */
    private static void flagFalse() {
        for (int lit = 2; lit < 8; lit++) {
            checks.due("new object: winner(" + lit + ")", new DefeasibleLogic(4, 4).winner(lit), -2);
            checks.due("before compute: winner(" + lit + ")", Theories.mixed().winner(lit), -2);
            for (Consumer<DefeasibleLogic> change : Theories.changes()) {
                DefeasibleLogic x = Checks.computed(Theories::mixed).get();
                checks.due("computed: winner(" + lit + ")", x.winner(lit), lit == 2 ? 0 : lit == 4 ? 1 : -1);
                change.accept(x);
                checks.due("after a change: winner(" + lit + ")", x.winner(lit), -2);
            }
        }
    }

    /** With every literal in +d, by a fact or by a rule. */
    private static void noLiteral() {
        for (int atoms = 1; atoms <= 32; atoms++) {
            DefeasibleLogic facts = new DefeasibleLogic(atoms, 1);
            DefeasibleLogic rules = new DefeasibleLogic(atoms, 32);
            for (int lit = 0; lit < 2 * atoms; lit++) {
                facts.addFact(lit);
                rules.newRule(STRICT, lit);
            }
            facts.compute();
            rules.compute();
            for (int lit : Ints.outside(2 * atoms)) {
                checks.due("A = " + atoms + ", facts: winner(" + lit + ")", facts.winner(lit), -1);
                checks.due("A = " + atoms + ", rules: winner(" + lit + ")", rules.winner(lit), -1);
            }
        }
    }

    /** In -d, and in no set at all; a rule that holds is no ground while an attack stands or is undecided. */
    private static void notConcluded() {
        DefeasibleLogic x = new DefeasibleLogic(5, 8);
        checks.rule(x, DEFEASIBLE, 0, 0);
        checks.rule(x, STRICT, 2, 2);
        checks.rule(x, DEFEASIBLE, 4);
        checks.rule(x, DEFEASIBLE, 5);
        checks.rule(x, DEFEATER, 6);
        checks.rule(x, DEFEASIBLE, 8);
        checks.rule(x, DEFEATER, 9, 0);
        x.compute();
        for (int lit = 0; lit < 10; lit++) {
            checks.due("winner(" + lit + ")", x.winner(lit), DefeasibleLogic.NONE);
        }
        DefeasibleLogic empty = new DefeasibleLogic(32, 1);
        empty.compute();
        for (int lit = 0; lit < 64; lit++) {
            checks.due("empty theory: winner(" + lit + ")", empty.winner(lit), DefeasibleLogic.NONE);
        }
    }

    private static void byFact() {
        for (int lit = 0; lit < 64; lit++) {
            DefeasibleLogic x = new DefeasibleLogic(32, 1);
            x.addFact(lit);
            x.compute();
            checks.due("winner(" + lit + ")", x.winner(lit), DefeasibleLogic.BY_FACT);
            checks.due("winner(" + (lit ^ 1) + ")", x.winner(lit ^ 1), DefeasibleLogic.NONE);
            x.addFact(lit ^ 1);
            x.compute();
            checks.due("winner(" + lit + ") beside its complement", x.winner(lit), DefeasibleLogic.BY_FACT);
            checks.due("winner(" + (lit ^ 1) + "), now a fact", x.winner(lit ^ 1), DefeasibleLogic.BY_FACT);
        }
    }

    /** The rule stands at each place among 32, behind strict rules that fail and before another that holds. */
    private static void byStrictRule() {
        for (int place = 0; place < 32; place++) {
            DefeasibleLogic x = new DefeasibleLogic(32, 32);
            x.addFact(2);
            x.addFact(6);
            for (int rule = 0; rule < 32; rule++) {
                checks.rule(x, STRICT, 63, 2, rule < place ? 4 : 6);
            }
            x.compute();
            checks.due("winner(63), place " + place, x.winner(63), place);
        }
    }

    /** The same in +d alone, with rules of both kinds. */
    private static void bySupport() {
        for (int place = 0; place < 32; place++) {
            for (int kind = STRICT; kind <= DEFEASIBLE; kind++) {
                DefeasibleLogic x = new DefeasibleLogic(32, 32);
                for (int rule = 0; rule < 31; rule++) {
                    checks.rule(x, (rule + kind) % 2, 63, rule < place ? 4 : 2);
                }
                checks.rule(x, DEFEASIBLE, 2);
                x.compute();
                checks.due("winner(63), place " + place, x.winner(63), place < 31 ? place : -1);
                checks.due("winner(2), place " + place, x.winner(2), 31);
            }
        }
    }

    private static void flagBeforeLiteral() {
        for (int lit : Ints.outside(8)) {
            checks.due("new object: winner(" + lit + ")", new DefeasibleLogic(4, 4).winner(lit), -2);
            checks.due("before compute: winner(" + lit + ")", Theories.mixed().winner(lit), -2);
            for (Consumer<DefeasibleLogic> change : Theories.changes()) {
                DefeasibleLogic x = Checks.computed(Theories::mixed).get();
                change.accept(x);
                checks.due("after a change: winner(" + lit + ")", x.winner(lit), -2);
            }
        }
    }

    private static void flagBeforeFact() {
        DefeasibleLogic x = new DefeasibleLogic(1, 1);
        x.addFact(0);
        checks.due("winner(0), a fact, before compute", x.winner(0), -2);
        x.compute();
        x.addFact(1);
        checks.due("winner(0), a fact, after a change", x.winner(0), -2);
        checks.due("winner(1), the new fact", x.winner(1), -2);
    }

    private static void factBeforeStrictRule() {
        for (int kind = STRICT; kind <= DEFEATER; kind++) {
            DefeasibleLogic x = new DefeasibleLogic(1, 2);
            checks.rule(x, kind, 0);
            checks.rule(x, kind, 0, 0);
            x.addFact(0);
            x.compute();
            checks.due("winner(0), a fact with rules of kind " + kind, x.winner(0), DefeasibleLogic.BY_FACT);
        }
    }

    /** The rules before it hold in +d alone, or are not strict, or are for the complement. */
    private static void strictRuleBeforeSupport() {
        DefeasibleLogic x = new DefeasibleLogic(2, 8);
        checks.rule(x, DEFEASIBLE, 2);
        checks.rule(x, DEFEATER, 0);
        checks.rule(x, DEFEASIBLE, 0);
        checks.rule(x, STRICT, 0, 2);
        checks.rule(x, STRICT, 1);
        checks.rule(x, STRICT, 0, 1);
        checks.rule(x, STRICT, 0);
        x.compute();
        checks.due("winner(0), in +D", x.winner(0), 5);
        checks.due("winner(1), in +D", x.winner(1), 4);
        checks.due("winner(2), in +d alone", x.winner(2), 0);
        x = new DefeasibleLogic(2, 8);
        checks.rule(x, DEFEASIBLE, 2);
        checks.rule(x, DEFEATER, 0);
        checks.rule(x, STRICT, 0, 3);
        checks.rule(x, STRICT, 0, 2);
        checks.rule(x, DEFEASIBLE, 0);
        x.compute();
        checks.due("winner(0), in +d alone, by a STRICT rule", x.winner(0), 3);
    }

    private static void asLastComputed() {
        DefeasibleLogic x = new DefeasibleLogic(2, 4);
        checks.rule(x, DEFEASIBLE, 0, 2);
        checks.rule(x, DEFEASIBLE, 0);
        x.compute();
        checks.due("winner(0) at first", x.winner(0), 1);
        x.addFact(2);
        x.compute();
        checks.due("winner(0) with the body proved", x.winner(0), 0);
        checks.rule(x, STRICT, 0);
        x.compute();
        checks.due("winner(0), now in +D", x.winner(0), 2);
        x.addFact(0);
        x.compute();
        checks.due("winner(0), now a fact", x.winner(0), -3);
        x.reset();
        x.compute();
        checks.due("winner(0) after reset", x.winner(0), -1);
    }

    /** In all of the small theories the ground that is no fact is a rule with the head, kind and body that are due. */
    private static void alwaysARule() {
        Theories.forEachSmall((name, x) -> {
            x.compute();
            dueGround(name, x, 0);
            dueGround(name, x, 1);
        });
    }

    private static void dueGround(String name, DefeasibleLogic x, int lit) {
        if (!x.hasTag(lit, 2) || x.isFact(lit)) {
            return;
        }
        int rule = x.winner(lit);
        boolean definite = x.hasTag(lit, 0);
        checks.due(name + ": winner(" + lit + ") is a rule", rule >= 0 && rule < x.ruleCount(), true);
        checks.due(name + ": its head", x.ruleHead(rule), lit);
        checks.due(name + ": its kind", definite ? x.ruleKind(rule) == STRICT : x.ruleKind(rule) != DEFEATER, true);
        for (int index = 0; index < 2; index++) {
            int ground = x.ruleBody(rule, index);
            checks.due(name + ": its body", ground < 0 || x.hasTag(ground, definite ? 0 : 2), true);
        }
    }

    private static void changesNothing() {
        for (int lit : new int[] {Integer.MIN_VALUE, -1, 0, 2, 4, 5, 6, 8, 64, Integer.MAX_VALUE}) {
            checks.dueUnchanged("winner(" + lit + ")", Theories::mixed, x -> x.winner(lit));
            checks.dueUnchanged("winner(" + lit + ")", Checks.computed(Theories::full), x -> x.winner(lit));
        }
    }
}
