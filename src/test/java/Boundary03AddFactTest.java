/** Promise 3: a test for each sentence that names a boundary case. */
public final class Boundary03AddFactTest {
    private static final Checks checks = new Checks();

    public static void main(String[] args) {
        checks.test("1. lit is not a valid literal -> answer false", Boundary03AddFactTest::noLiteral);
        checks.test("2. lit is already a fact -> answer false", Boundary03AddFactTest::alreadyAFact);
        checks.test("Tests in order: an int that is no literal is not looked up among the facts",
            Boundary03AddFactTest::noLiteralBesideFacts);
        checks.test("Otherwise lit becomes a fact, the flag is set false, and the answer is true.",
            Boundary03AddFactTest::otherwise);
        checks.test("On a false answer nothing changes, the flag included.", Boundary03AddFactTest::refusedChangesNothing);
        checks.test("The complement of lit is not affected; it may be or become a fact too.",
            Boundary03AddFactTest::complement);
        checks.test("Rules and pairs are never changed.", Boundary03AddFactTest::rulesAndPairsStay);
        checks.finish();
    }

    private static void noLiteral() {
        for (int atoms = 1; atoms <= 32; atoms++) {
            DefeasibleLogic x = new DefeasibleLogic(atoms, 1);
            for (int lit : Ints.outside(2 * atoms)) {
                checks.due("A = " + atoms + ": addFact(" + lit + ")", x.addFact(lit), false);
            }
            checks.due("A = " + atoms + ": facts in +D", x.compute(), 0);
        }
    }

    private static void alreadyAFact() {
        for (int lit = 0; lit < 64; lit++) {
            DefeasibleLogic x = new DefeasibleLogic(32, 1);
            checks.due("addFact(" + lit + ")", x.addFact(lit), true);
            checks.due("addFact(" + lit + ") again", x.addFact(lit), false);
            x.compute();
            checks.due("addFact(" + lit + ") after compute", x.addFact(lit), false);
            x.addFact(lit ^ 1);
            checks.due("addFact(" + lit + ") beside its complement", x.addFact(lit), false);
            checks.due("isFact(" + lit + ")", x.isFact(lit), true);
        }
    }

    /** With every literal a fact and with none: the answer is the same. */
    private static void noLiteralBesideFacts() {
        for (int atoms = 1; atoms <= 32; atoms++) {
            DefeasibleLogic x = new DefeasibleLogic(atoms, 1);
            for (int lit = 0; lit < 2 * atoms; lit++) {
                x.addFact(lit);
            }
            for (int lit : Ints.outside(2 * atoms)) {
                checks.due("A = " + atoms + ", all facts: addFact(" + lit + ")", x.addFact(lit), false);
            }
            x.reset();
            for (int lit : Ints.outside(2 * atoms)) {
                checks.due("A = " + atoms + ", no facts: addFact(" + lit + ")", x.addFact(lit), false);
            }
            for (int lit = 0; lit < 2 * atoms; lit++) {
                checks.due("A = " + atoms + ": isFact(" + lit + ")", x.isFact(lit), false);
            }
        }
    }

    private static void otherwise() {
        for (int atoms : new int[] {1, 2, 16, 17, 32}) {
            DefeasibleLogic x = new DefeasibleLogic(atoms, 1);
            for (int lit = 2 * atoms - 1; lit >= 0; lit--) {
                x.compute();
                checks.due("isFact(" + lit + ") before", x.isFact(lit), false);
                checks.due("addFact(" + lit + ")", x.addFact(lit), true);
                checks.due("isFact(" + lit + ")", x.isFact(lit), true);
                checks.due("countTag(0) after addFact", x.countTag(0), -2);
                checks.due("hasTag after addFact", x.hasTag(2 * atoms - 1, 0), false);
            }
            checks.due("compute() with all facts", x.compute(), 2 * atoms);
        }
    }

    private static void refusedChangesNothing() {
        for (int lit : new int[] {Integer.MIN_VALUE, -64, -1, 0, 1, 8, 9, 64, 65, Integer.MAX_VALUE}) {
            checks.dueFalse("mixed: addFact(" + lit + ")", Theories::mixed, x -> x.addFact(lit));
        }
        for (int lit : new int[] {Integer.MIN_VALUE, -1, 0, 31, 32, 63, 64, Integer.MAX_VALUE}) {
            checks.dueFalse("packed: addFact(" + lit + ")", Theories::packed, x -> x.addFact(lit));
        }
        checks.dueFalse("new(1, 1): addFact(2)", () -> new DefeasibleLogic(1, 1), x -> x.addFact(2));
        checks.dueFalse("new(1, 1): addFact(-1)", () -> new DefeasibleLogic(1, 1), x -> x.addFact(-1));
    }

    private static void complement() {
        for (int lit = 0; lit < 64; lit++) {
            DefeasibleLogic x = new DefeasibleLogic(32, 1);
            x.addFact(lit);
            checks.due("isFact(" + (lit ^ 1) + ") is not affected", x.isFact(lit ^ 1), false);
            checks.due("addFact(" + (lit ^ 1) + ") becomes a fact", x.addFact(lit ^ 1), true);
            checks.due("isFact(" + lit + ") stays", x.isFact(lit), true);
            checks.due("isFact(" + (lit ^ 1) + ")", x.isFact(lit ^ 1), true);
            for (int other = 0; other < 64; other++) {
                if (other / 2 != lit / 2) {
                    checks.due("isFact(" + other + "), another atom", x.isFact(other), false);
                }
            }
        }
    }

    private static void rulesAndPairsStay() {
        for (int lit = 2; lit < 8; lit++) {
            DefeasibleLogic x = Theories.mixed();
            String before = Transcript.theory(x);
            checks.due("addFact(" + lit + ")", x.addFact(lit), true);
            String facts = "facts 0 1";
            checks.dueSame("theory after addFact(" + lit + ")", Transcript.theory(x),
                facts + " " + lit + before.substring(facts.length()));
        }
    }
}
