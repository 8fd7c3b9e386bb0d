/** Terms: a test for each sentence on literals, facts, rules and superiority that names a boundary case. */
public final class BoundaryTermsTest {
    private static final Checks checks = new Checks();

    public static void main(String[] args) {
        checks.test("A valid literal is an int L with 0 <= L < 2*A.", BoundaryTermsTest::firstAndLastLiteral);
        checks.test("the complement of a valid literal is again valid.", BoundaryTermsTest::complements);
        checks.test("Every other int (any negative int, any int >= 2*A) is not a valid literal.",
            BoundaryTermsTest::noOtherLiteral);
        checks.test("A set of valid literals, initially empty.", BoundaryTermsTest::noFactsAtFirst);
        checks.test("A literal and its complement may both be facts.", BoundaryTermsTest::bothSidesAreFacts);
        checks.test("Rules are numbered 0, 1, 2, ... in order of creation; ruleCount() of them exist, at most M",
            BoundaryTermsTest::rulesAreNumbered);
        checks.test("a body: a list of 0 to MAX_BODY pairwise different valid literals, kept in order of addition.",
            BoundaryTermsTest::bodySizes);
        checks.test("A body may contain the head or its complement.", BoundaryTermsTest::headInBody);
        checks.test("An existing rule index is an int r with 0 <= r < ruleCount().", BoundaryTermsTest::existingRules);
        checks.test("A set of recorded ordered pairs (r, s) of two different existing rules",
            BoundaryTermsTest::pairsAreOrdered);
        checks.test("Pairs may join rules of any heads and kinds.", BoundaryTermsTest::pairsOfAnyRules);
        checks.test("Only recorded pairs count anywhere: no transitive closure is taken.",
            BoundaryTermsTest::chainsAreNoPairs);
        checks.test("The recorded pairs never form a cycle.", BoundaryTermsTest::noCycle);
        checks.finish();
    }

    private static void firstAndLastLiteral() {
        for (int atoms = 1; atoms <= 32; atoms++) {
            for (int lit : new int[] {0, 1, 2 * atoms - 2, 2 * atoms - 1}) {
                String name = "A = " + atoms + ", literal " + lit;
                DefeasibleLogic x = new DefeasibleLogic(atoms, 1);
                checks.due(name + ": addFact", x.addFact(lit), true);
                checks.due(name + ": isFact", x.isFact(lit), true);
                checks.due(name + ": newRule", x.newRule(1, lit), 0);
                checks.due(name + ": addBody", x.addBody(0, lit), true);
                x.compute();
                checks.due(name + ": hasTag +D", x.hasTag(lit, 0), true);
                checks.due(name + ": winner", x.winner(lit), -3);
            }
        }
    }

    /** A fact stands against a defeasible rule for its complement, and against no other. */
    private static void complements() {
        for (int atoms : new int[] {1, 2, 31, 32}) {
            for (int lit = 0; lit < 2 * atoms; lit++) {
                for (int other = 0; other < 2 * atoms; other++) {
                    int complement = lit % 2 == 0 ? lit + 1 : lit - 1;
                    DefeasibleLogic x = new DefeasibleLogic(atoms, 1);
                    x.addFact(lit);
                    String name = "A = " + atoms + ", fact " + lit + ", rule for " + other;
                    checks.due(name + ": newRule", x.newRule(1, other), 0);
                    checks.due(name + ": compute", x.compute(), other == lit || other == complement ? 1 : 2);
                    checks.due(name + ": hasTag -d", x.hasTag(other, 3), other == complement);
                }
            }
        }
    }

    private static void noOtherLiteral() {
        for (int atoms = 1; atoms <= 32; atoms++) {
            DefeasibleLogic x = new DefeasibleLogic(atoms, 2);
            x.newRule(1, 0);
            for (int lit = 0; lit < 2 * atoms; lit++) {
                x.addFact(lit);
            }
            x.compute();
            for (int lit : Ints.outside(2 * atoms)) {
                String name = "A = " + atoms + ", int " + lit;
                checks.due(name + ": isFact", x.isFact(lit), false);
                checks.due(name + ": hasTag +D", x.hasTag(lit, 0), false);
                checks.due(name + ": winner", x.winner(lit), -1);
                checks.due(name + ": addFact", x.addFact(lit), false);
                checks.due(name + ": newRule", x.newRule(1, lit), -1);
                checks.due(name + ": addBody", x.addBody(0, lit), false);
            }
        }
    }

    private static void noFactsAtFirst() {
        for (int atoms = 1; atoms <= 32; atoms++) {
            DefeasibleLogic x = new DefeasibleLogic(atoms, 1);
            for (int lit = 0; lit < 2 * atoms; lit++) {
                checks.due("A = " + atoms + ": isFact(" + lit + ")", x.isFact(lit), false);
            }
            checks.due("A = " + atoms + ": compute()", x.compute(), 0);
            checks.due("A = " + atoms + ": countTag -D", x.countTag(1), 2 * atoms);
        }
    }

    private static void bothSidesAreFacts() {
        for (int lit = 0; lit < 64; lit++) {
            DefeasibleLogic x = new DefeasibleLogic(32, 1);
            checks.due("addFact(" + lit + ")", x.addFact(lit), true);
            checks.due("addFact(" + (lit ^ 1) + ")", x.addFact(lit ^ 1), true);
            checks.due("isFact(" + lit + ")", x.isFact(lit), true);
            checks.due("isFact(" + (lit ^ 1) + ")", x.isFact(lit ^ 1), true);
            checks.due("compute()", x.compute(), 2);
            checks.dueTagged("both facts", x, 0, lit, lit ^ 1);
            checks.dueTagged("both facts", x, 2, lit, lit ^ 1);
        }
    }

    private static void rulesAreNumbered() {
        for (int limit = 1; limit <= 32; limit++) {
            DefeasibleLogic x = new DefeasibleLogic(32, limit);
            for (int rule = 0; rule < limit + 3; rule++) {
                int due = rule < limit ? rule : -1;
                checks.due("M = " + limit + ": newRule, call " + rule, x.newRule(1, rule), due);
                checks.due("M = " + limit + ": ruleCount", x.ruleCount(), Math.min(limit, rule + 1));
            }
            for (int rule = 0; rule < limit; rule++) {
                checks.due("M = " + limit + ": ruleHead(" + rule + ")", x.ruleHead(rule), rule);
            }
        }
    }

    private static void bodySizes() {
        int[] lits = {9, 2, 63, 0, 8};
        for (int size = 0; size <= 4; size++) {
            DefeasibleLogic x = new DefeasibleLogic(32, 1);
            x.newRule(1, 5);
            int[] body = new int[size];
            for (int place = 0; place < size; place++) {
                body[place] = lits[place];
                checks.due("addBody(0, " + lits[place] + ")", x.addBody(0, lits[place]), true);
                checks.due("addBody(0, " + lits[place] + ") again", x.addBody(0, lits[place]), false);
            }
            checks.dueBody("a body of " + size, x, 0, body);
            checks.due("one literal more than " + size, x.addBody(0, lits[size]), size < 4);
        }
    }

    private static void headInBody() {
        for (int kind = 0; kind < 3; kind++) {
            for (int head = 0; head < 64; head++) {
                DefeasibleLogic x = new DefeasibleLogic(32, 1);
                x.newRule(kind, head);
                checks.due("addBody of the head " + head, x.addBody(0, head), true);
                checks.due("addBody of its complement", x.addBody(0, head ^ 1), true);
                checks.dueBody("head " + head, x, 0, head, head ^ 1);
            }
        }
    }

    private static void existingRules() {
        for (int count = 0; count <= 32; count++) {
            DefeasibleLogic x = Theories.withRules(count);
            for (int rule = 0; rule < count; rule++) {
                checks.due(count + " rules: ruleKind(" + rule + ")", x.ruleKind(rule), rule % 3);
                checks.due(count + " rules: ruleHead(" + rule + ")", x.ruleHead(rule), rule);
                checks.due(count + " rules: addBody(" + rule + ", 7)", x.addBody(rule, 7), true);
                checks.due(count + " rules: ruleBody(" + rule + ", 0)", x.ruleBody(rule, 0), 7);
            }
            for (int rule : Ints.outside(count)) {
                checks.due(count + " rules: ruleKind(" + rule + ")", x.ruleKind(rule), -1);
                checks.due(count + " rules: ruleHead(" + rule + ")", x.ruleHead(rule), -1);
                checks.due(count + " rules: ruleBody(" + rule + ", 0)", x.ruleBody(rule, 0), -1);
                checks.due(count + " rules: addBody(" + rule + ", 0)", x.addBody(rule, 0), false);
                checks.due(count + " rules: addSuperior(" + rule + ", 0)", x.addSuperior(rule, 0), false);
                checks.due(count + " rules: addSuperior(0, " + rule + ")", x.addSuperior(0, rule), false);
            }
        }
    }

    private static void pairsAreOrdered() {
        for (int stronger = 0; stronger < 32; stronger++) {
            for (int weaker = 0; weaker < 32; weaker++) {
                DefeasibleLogic x = Theories.withRules(32);
                String pair = "(" + stronger + ", " + weaker + ")";
                checks.due("addSuperior" + pair, x.addSuperior(stronger, weaker), stronger != weaker);
                checks.due("isSuperior" + pair, x.isSuperior(stronger, weaker), stronger != weaker);
                checks.due("isSuperior" + pair + " turned round", x.isSuperior(weaker, stronger), false);
            }
        }
    }

    private static void pairsOfAnyRules() {
        for (int kinds = 0; kinds < 9; kinds++) {
            for (int heads = 0; heads < 16; heads++) {
                DefeasibleLogic x = new DefeasibleLogic(2, 2);
                x.newRule(kinds / 3, heads / 4);
                x.newRule(kinds % 3, heads % 4);
                String rules = "kinds " + kinds / 3 + " " + kinds % 3 + ", heads " + heads / 4 + " " + heads % 4;
                checks.due(rules + ": addSuperior(0, 1)", x.addSuperior(0, 1), true);
                checks.due(rules + ": isSuperior(0, 1)", x.isSuperior(0, 1), true);
            }
        }
    }

    /** Chains made from their strongest rule on, and from their weakest. */
    private static void chainsAreNoPairs() {
        for (int length = 3; length <= 32; length++) {
            dueNoPair(length, true);
            dueNoPair(length, false);
        }
    }

    private static void dueNoPair(int length, boolean strongestFirst) {
        DefeasibleLogic x = new DefeasibleLogic(32, 32);
        x.newRule(1, 0);
        for (int rule = 1; rule < length - 1; rule++) {
            x.newRule(1, 2 * rule);
        }
        x.newRule(1, 1);
        for (int place = 0; place + 1 < length; place++) {
            int rule = strongestFirst ? place : length - 2 - place;
            checks.superior(x, rule, rule + 1);
        }
        String chain = "a chain of " + length;
        checks.due(chain + ": isSuperior of its ends", x.isSuperior(0, length - 1), false);
        checks.due(chain + ": compute", x.compute(), length - 2);
        checks.due(chain + ": the first rule does not win", x.hasTag(0, 2), false);
        checks.superior(x, 0, length - 1);
        checks.due(chain + " and the pair of its ends: compute", x.compute(), length - 1);
        checks.due(chain + " and the pair of its ends: the first rule wins", x.hasTag(0, 2), true);
    }

    /** Every pair is tried, in two orders; among what is recorded no rule leads back to itself. */
    private static void noCycle() {
        for (int count = 2; count <= 32; count++) {
            DefeasibleLogic x = Theories.withRules(count);
            for (int pair = 0; pair < count * count; pair++) {
                x.addSuperior(pair * 7 % count, pair / count);
                x.addSuperior(pair / count, pair * 5 % count);
            }
            checks.due(count + " rules: a cycle", hasCycle(x, count), false);
        }
    }

    /** Rules that have no stronger one among those left are taken away until none is left. */
    private static boolean hasCycle(DefeasibleLogic x, int count) {
        boolean[] taken = new boolean[count];
        int left = count;
        for (int turn = 0; turn < count; turn++) {
            for (int rule = 0; rule < count; rule++) {
                if (!taken[rule] && !hasStronger(x, rule, taken)) {
                    taken[rule] = true;
                    left--;
                }
            }
        }
        return left > 0;
    }

    private static boolean hasStronger(DefeasibleLogic x, int rule, boolean[] taken) {
        for (int stronger = 0; stronger < taken.length; stronger++) {
            if (!taken[stronger] && x.isSuperior(stronger, rule)) {
                return true;
            }
        }
        return false;
    }
}
