/** Promise 4: a test for each sentence that names a boundary case. */
public final class Boundary04IsFactTest {
    private static final Checks checks = new Checks();

    public static void main(String[] args) {
        checks.test("answers true iff lit is a valid literal and a fact.", Boundary04IsFactTest::factsAlone);
        checks.test("For every invalid int it answers false.", Boundary04IsFactTest::invalidInts);
        checks.test("It does not depend on the flag", Boundary04IsFactTest::anyFlag);
        checks.test("and changes nothing.", Boundary04IsFactTest::changesNothing);
        checks.finish();
    }

    /** A literal that is proved is not thereby a fact. */
    private static void factsAlone() {
        for (int fact = 0; fact < 64; fact++) {
            DefeasibleLogic x = new DefeasibleLogic(32, 2);
            x.addFact(fact);
            for (int lit = 0; lit < 64; lit++) {
                checks.due("fact " + fact + ": isFact(" + lit + ")", x.isFact(lit), lit == fact);
            }
        }
        DefeasibleLogic x = new DefeasibleLogic(2, 2);
        checks.rule(x, 0, 0);
        checks.rule(x, 1, 2);
        x.compute();
        checks.due("isFact(0), in +D by a rule", x.isFact(0), false);
        checks.due("isFact(2), in +d by a rule", x.isFact(2), false);
    }

    private static void invalidInts() {
        for (int atoms = 1; atoms <= 32; atoms++) {
            DefeasibleLogic x = new DefeasibleLogic(atoms, 1);
            for (int lit : Ints.outside(2 * atoms)) {
                checks.due("A = " + atoms + ", no facts: isFact(" + lit + ")", x.isFact(lit), false);
            }
            for (int lit = 0; lit < 2 * atoms; lit++) {
                x.addFact(lit);
            }
            for (int lit : Ints.outside(2 * atoms)) {
                x.addFact(lit);
                checks.due("A = " + atoms + ", all facts: isFact(" + lit + ")", x.isFact(lit), false);
            }
        }
    }

    private static void anyFlag() {
        DefeasibleLogic x = Theories.mixed();
        for (int turn = 0; turn < 3; turn++) {
            for (int lit = -1; lit <= 64; lit++) {
                checks.due("turn " + turn + ": isFact(" + lit + ")", x.isFact(lit), lit == 0 || lit == 1);
            }
            if (turn == 0) {
                x.compute();
            } else {
                checks.due("newRule(1, 3)", x.newRule(1, 3) >= 0, true);
            }
        }
    }

    private static void changesNothing() {
        for (int lit : new int[] {Integer.MIN_VALUE, -1, 0, 1, 2, 7, 8, 63, 64, Integer.MAX_VALUE}) {
            checks.dueUnchanged("isFact(" + lit + ") before compute", Theories::mixed, x -> x.isFact(lit));
            checks.dueUnchanged("isFact(" + lit + ") after compute", Checks.computed(Theories::mixed), x -> x.isFact(lit));
        }
    }
}
