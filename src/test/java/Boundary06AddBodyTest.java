/** Promise 6: a test for each sentence that names a boundary case. */
public final class Boundary06AddBodyTest {
    private static final Checks checks = new Checks();

    public static void main(String[] args) {
        checks.test("1. rule is not an existing rule index -> false", Boundary06AddBodyTest::noRule);
        checks.test("2. lit is not a valid literal -> false", Boundary06AddBodyTest::noLiteral);
        checks.test("3. the body already has MAX_BODY literals -> false", Boundary06AddBodyTest::fullBody);
        checks.test("4. lit is already in that body -> false", Boundary06AddBodyTest::alreadyThere);
        checks.test("Tests in order: several of them at once", Boundary06AddBodyTest::severalAtOnce);
        checks.test("Otherwise lit is appended at the end of that body, the flag is set false, and the answer is true.",
            Boundary06AddBodyTest::otherwise);
        checks.test("lit may equal the head of the rule or its complement.", Boundary06AddBodyTest::headAndComplement);
        checks.test("On false nothing changes, the flag included.", Boundary06AddBodyTest::refusedChangesNothing);
        checks.test("Other rules, the kind and head of this rule, the earlier body literals and their order, facts and "
            + "pairs are never changed.", Boundary06AddBodyTest::theRestStays);
        checks.finish();
    }

    private static void noRule() {
        for (int count = 0; count <= 32; count++) {
            DefeasibleLogic x = Theories.withRules(count);
            for (int rule : Ints.outside(count)) {
                checks.due(count + " rules: addBody(" + rule + ", 0)", x.addBody(rule, 0), false);
            }
            for (int rule = 0; rule < count; rule++) {
                checks.dueBody(count + " rules", x, rule);
            }
            x.reset();
            checks.due(count + " rules before reset: addBody(0, 0)", x.addBody(0, 0), false);
        }
    }

    private static void noLiteral() {
        for (int atoms = 1; atoms <= 32; atoms++) {
            DefeasibleLogic x = new DefeasibleLogic(atoms, 2);
            x.newRule(0, 0);
            x.newRule(2, 1);
            for (int lit : Ints.outside(2 * atoms)) {
                checks.due("A = " + atoms + ": addBody(0, " + lit + ")", x.addBody(0, lit), false);
                checks.due("A = " + atoms + ": addBody(1, " + lit + ")", x.addBody(1, lit), false);
            }
            checks.dueBody("A = " + atoms, x, 0);
            checks.dueBody("A = " + atoms, x, 1);
        }
    }

    /** The fourth literal is taken and the fifth is not, in each of 32 rules. */
    private static void fullBody() {
        DefeasibleLogic x = Theories.withRules(32);
        for (int rule = 0; rule < 32; rule++) {
            for (int lit = 0; lit < 64; lit++) {
                int tried = (lit * 5 + rule) % 64;
                checks.due("addBody(" + rule + ", " + tried + "), call " + lit, x.addBody(rule, tried), lit < 4);
            }
        }
        for (int rule = 0; rule < 32; rule++) {
            checks.dueBody("a full body", x, rule, rule, (5 + rule) % 64, (10 + rule) % 64, (15 + rule) % 64);
        }
    }

    /** At every place of bodies of every size; in another body the literal may be. */
    private static void alreadyThere() {
        int[] lits = {0, 63, 32, 31};
        for (int size = 1; size <= 4; size++) {
            DefeasibleLogic x = Theories.withRules(2);
            for (int place = 0; place < size; place++) {
                checks.due("addBody(0, " + lits[place] + ")", x.addBody(0, lits[place]), true);
            }
            for (int place = 0; place < size; place++) {
                checks.due("addBody(0, " + lits[place] + ") again, of " + size, x.addBody(0, lits[place]), false);
                checks.due("addBody(1, " + lits[place] + "), another body", x.addBody(1, lits[place]), true);
            }
            checks.due("ruleBody(0, " + size + ")", x.ruleBody(0, size), -1);
        }
    }

    /** No rule and no literal; no literal and a full body; a literal of the full body itself. */
    private static void severalAtOnce() {
        DefeasibleLogic x = Theories.mixed();
        int[] rules = {Integer.MIN_VALUE, -1, 5, 32, Integer.MAX_VALUE};
        int[] lits = {Integer.MIN_VALUE, -1, 8, 64, Integer.MAX_VALUE};
        for (int lit : lits) {
            for (int rule : rules) {
                checks.due("addBody(" + rule + ", " + lit + ")", x.addBody(rule, lit), false);
            }
            checks.due("addBody(3, " + lit + "), a full body", x.addBody(3, lit), false);
        }
        for (int lit : new int[] {6, 7, 4, 2}) {
            checks.due("addBody(3, " + lit + "), in a full body", x.addBody(3, lit), false);
        }
        checks.dueBody("mixed", x, 3, 6, 7, 4, 2);
        checks.dueSame("theory", Transcript.theory(x), Transcript.theory(Theories.mixed()));
    }

    private static void otherwise() {
        int[] lits = {63, 0, 62, 1};
        DefeasibleLogic x = Theories.withRules(32);
        for (int rule = 31; rule >= 0; rule--) {
            for (int place = 0; place < 4; place++) {
                x.compute();
                checks.due("addBody(" + rule + ", " + lits[place] + ")", x.addBody(rule, lits[place]), true);
                checks.due("ruleBody(" + rule + ", " + place + ")", x.ruleBody(rule, place), lits[place]);
                checks.due("ruleBody(" + rule + ", " + (place + 1) + ")", x.ruleBody(rule, place + 1), -1);
                checks.due("countTag(2)", x.countTag(2), -2);
                checks.due("hasTag(1, 1)", x.hasTag(1, 1), false);
                checks.due("winner(1)", x.winner(1), -2);
            }
        }
    }

    private static void headAndComplement() {
        for (int kind = 0; kind < 3; kind++) {
            for (int atoms = 1; atoms <= 32; atoms++) {
                int head = 2 * atoms - 1;
                DefeasibleLogic x = new DefeasibleLogic(atoms, 2);
                x.newRule(kind, head);
                x.newRule(kind, head);
                checks.due("addBody(0, the head)", x.addBody(0, head), true);
                checks.due("addBody(0, its complement)", x.addBody(0, head - 1), true);
                checks.due("addBody(1, the complement)", x.addBody(1, head - 1), true);
                checks.due("addBody(1, the head)", x.addBody(1, head), true);
                checks.dueBody("head first", x, 0, head, head - 1);
                checks.dueBody("complement first", x, 1, head - 1, head);
            }
        }
    }

    private static void refusedChangesNothing() {
        for (int rule : new int[] {Integer.MIN_VALUE, -1, 5, 32, 33, Integer.MAX_VALUE}) {
            checks.dueFalse("addBody(" + rule + ", 3), no rule", Theories::mixed, x -> x.addBody(rule, 3));
            checks.dueFalse("addBody(" + rule + ", 8), neither", Theories::mixed, x -> x.addBody(rule, 8));
        }
        for (int lit : new int[] {Integer.MIN_VALUE, -1, 8, 64, 67, Integer.MAX_VALUE}) {
            checks.dueFalse("addBody(2, " + lit + "), no literal", Theories::mixed, x -> x.addBody(2, lit));
            checks.dueFalse("addBody(3, " + lit + "), no literal, full", Theories::mixed, x -> x.addBody(3, lit));
        }
        for (int lit = 0; lit < 8; lit++) {
            int tried = lit;
            checks.dueFalse("addBody(3, " + lit + "), full", Theories::mixed, x -> x.addBody(3, tried));
        }
        checks.dueFalse("addBody(0, 0), there", Theories::mixed, x -> x.addBody(0, 0));
        checks.dueFalse("addBody(0, 1), there", Theories::mixed, x -> x.addBody(0, 1));
        checks.dueFalse("addBody(4, 6), there", Theories::full, x -> x.addBody(4, 6));
        for (int kind = 0; kind < 2; kind++) {
            int tried = kind;
            checks.dueFalse("addBody(0, 10), a full body that holds", () -> fullBodyHolds(tried), x -> x.addBody(0, 10));
            checks.dueFalse("addBody(0, 2), in a full body that holds", () -> fullBodyHolds(tried), x -> x.addBody(0, 2));
        }
        checks.dueFalse("addBody(0, 0) without rules", () -> new DefeasibleLogic(1, 1), x -> x.addBody(0, 0));
        checks.dueFalse("addBody(31, 0), packed", Theories::packed, x -> x.addBody(31, 0));
    }

    /** One more literal in the body would take the conclusion away. */
    private static DefeasibleLogic fullBodyHolds(int kind) {
        DefeasibleLogic x = new DefeasibleLogic(6, 1);
        Theories.rule(x, kind, 0, 2, 4, 6, 8);
        for (int lit = 2; lit <= 8; lit += 2) {
            x.addFact(lit);
        }
        return x;
    }

    private static void theRestStays() {
        String before = Transcript.theory(Theories.mixed());
        dueTheory("addBody(0, 7)", 0, 7, before.replace("; 0: 0 2 -1 0 1 -1 -1 -1", "; 0: 0 2 -1 0 1 7 -1 -1"));
        dueTheory("addBody(1, 5)", 1, 5, before.replace("; 1: 1 4 -1 2 -1 -1 -1 -1", "; 1: 1 4 -1 2 5 -1 -1 -1"));
        dueTheory("addBody(2, 0)", 2, 0, before.replace("; 2: 1 5 -1 -1 -1 -1 -1 -1", "; 2: 1 5 -1 0 -1 -1 -1 -1"));
        dueTheory("addBody(4, 7)", 4, 7, before.replace("; 4: 0 6 -1 6 -1 -1 -1 -1", "; 4: 0 6 -1 6 7 -1 -1 -1"));
    }

    private static void dueTheory(String name, int rule, int lit, String due) {
        DefeasibleLogic x = Theories.mixed();
        checks.due(name, x.addBody(rule, lit), true);
        checks.dueSame("theory after " + name, Transcript.theory(x), due);
    }
}
