import java.util.function.Consumer;

/** Promise 13: a test for each sentence that names a boundary case. */
public final class Boundary13ComputeTest {
    private static final Checks checks = new Checks();
    private static final int STRICT = 0;
    private static final int DEFEASIBLE = 1;
    private static final int DEFEATER = 2;

    public static void main(String[] args) {
        theCall();
        theSets();
        theConditions();
        theResults();
        checks.finish();
    }

    private static void theCall() {
        checks.test("sets the flag true", Boundary13ComputeTest::setsTheFlag);
        checks.test("answers the number of valid literals in +d (a value from 0 to 2*A).", Boundary13ComputeTest::answer);
        checks.test("It is never refused.", Boundary13ComputeTest::neverRefused);
        checks.test("Calling it again while the flag is still true computes again and gives the same sets and the same "
            + "answer", Boundary13ComputeTest::again);
        checks.test("after such a change it computes from the changed theory: addFact", Boundary13ComputeTest::afterAddFact);
        checks.test("after such a change it computes from the changed theory: newRule", Boundary13ComputeTest::afterNewRule);
        checks.test("after such a change it computes from the changed theory: addBody", Boundary13ComputeTest::afterAddBody);
        checks.test("after such a change it computes from the changed theory: addSuperior",
            Boundary13ComputeTest::afterAddSuperior);
        checks.test("after such a change it computes from the changed theory: reset", Boundary13ComputeTest::afterReset);
        checks.test("Facts, rules and pairs are never changed.", Boundary13ComputeTest::theoryStays);
    }

    private static void theSets() {
        checks.test("start with all four empty", Boundary13ComputeTest::startsEmpty);
        checks.test("every valid literal q and every tag is tested", Boundary13ComputeTest::everyLiteral);
        checks.test("stop after the first round that adds nothing: many rounds", Boundary13ComputeTest::manyRounds);
        checks.test("stop after the first round that adds nothing: not after one that adds to +D alone",
            Boundary13ComputeTest::roundOfPlusDefinite);
        checks.test("stop after the first round that adds nothing: not after one that adds to -D alone",
            Boundary13ComputeTest::roundOfMinusDefinite);
        checks.test("stop after the first round that adds nothing: not after one that adds to +d alone",
            Boundary13ComputeTest::roundOfPlusDefeasible);
        checks.test("stop after the first round that adds nothing: not after one that adds to -d alone",
            Boundary13ComputeTest::roundOfMinusDefeasible);
    }

    private static void theConditions() {
        checks.test("q in +D: 'some' over no STRICT rule fails", Boundary13ComputeTest::plusDefiniteWithoutRule);
        checks.test("q in +D: 'every' over an empty body holds", Boundary13ComputeTest::plusDefiniteEmptyBody);
        checks.test("q in -D: q is not a fact", Boundary13ComputeTest::minusDefiniteFact);
        checks.test("q in -D: 'every' over no STRICT rule holds", Boundary13ComputeTest::minusDefiniteWithoutRule);
        checks.test("q in -D: 'some' over an empty body fails", Boundary13ComputeTest::minusDefiniteEmptyBody);
        checks.test("q in +d (a): 'some' over no STRICT or DEFEASIBLE rule fails", Boundary13ComputeTest::noSupport);
        checks.test("q in +d (a): 'every' over an empty body holds", Boundary13ComputeTest::supportWithEmptyBody);
        checks.test("q in +d (b): ~q in -D, not merely outside +D", Boundary13ComputeTest::complementUndecided);
        checks.test("q in +d (c): 'every' over no rule for ~q holds", Boundary13ComputeTest::noAttack);
        checks.test("q in +d (c): 'some' over the empty body of s fails", Boundary13ComputeTest::attackWithEmptyBody);
        checks.test("q in +d (c): 'every' over the empty body of t holds", Boundary13ComputeTest::answerWithEmptyBody);
        checks.test("q in -d: q in -D", Boundary13ComputeTest::minusDefeasibleNeedsMinusDefinite);
        checks.test("q in -d (a): 'every' over no STRICT or DEFEASIBLE rule holds", Boundary13ComputeTest::failsWithoutRule);
        checks.test("q in -d (a): 'some' over an empty body fails", Boundary13ComputeTest::emptyBodyDoesNotFail);
        checks.test("q in -d (b): ~q in +D", Boundary13ComputeTest::complementProved);
        checks.test("q in -d (c): 'some' over no rule for ~q fails", Boundary13ComputeTest::undecidedWithoutAttack);
        checks.test("q in -d (c): 'every' over the empty body of s holds", Boundary13ComputeTest::attackStands);
        checks.test("q in -d (c): 'some' over the empty body of t fails", Boundary13ComputeTest::attackAnswered);
        checks.test("So an empty body has every literal in any set and none in -d or -D.",
            Boundary13ComputeTest::emptyBodies);
    }

    private static void theResults() {
        checks.test("A literal and its complement may both be facts.", Boundary13ComputeTest::bothFacts);
        checks.test("A body may contain the head or its complement.", Boundary13ComputeTest::headInBody);
        checks.test("q is never in both +D and -D", () -> overSmallTheories(Boundary13ComputeTest::notBothDefinite));
        checks.test("q is never in both +d and -d", () -> overSmallTheories(Boundary13ComputeTest::notBothDefeasible));
        checks.test("if q and ~q are both in +d then both are in +D.",
            () -> overSmallTheories(Boundary13ComputeTest::conflictIsDefinite));
        checks.test("Also every literal in +D is in +d, and every literal in -d is in -D.",
            () -> overSmallTheories(Boundary13ComputeTest::definiteAndDefeasible));
        checks.test("All conditions are monotone, so this is the least family of sets closed under them.",
            Boundary13ComputeTest::leastFamily);
    }

    private static void due(String name, DefeasibleLogic x, int[]... sets) {
        checks.dueSets(name, x, sets);
    }

    private static int[] set(int... lits) {
        return lits;
    }

    private static DefeasibleLogic theory(int atoms) {
        return new DefeasibleLogic(atoms, 32);
    }

    private static void setsTheFlag() {
        DefeasibleLogic x = new DefeasibleLogic(1, 1);
        checks.due("countTag(1) before", x.countTag(1), -2);
        x.compute();
        checks.due("countTag(1) of an empty theory", x.countTag(1), 2);
        checks.due("hasTag(0, 1) of an empty theory", x.hasTag(0, 1), true);
        checks.due("winner(0) of an empty theory", x.winner(0), -1);
        x.addFact(0);
        checks.due("countTag(1) after a change", x.countTag(1), -2);
        x.compute();
        checks.due("countTag(1) of the changed theory", x.countTag(1), 1);
        checks.due("winner(0) of the changed theory", x.winner(0), -3);
    }

    /** From none to all, for every A. */
    private static void answer() {
        for (int atoms = 1; atoms <= 32; atoms++) {
            DefeasibleLogic x = theory(atoms);
            for (int lit = 0; lit < 2 * atoms; lit++) {
                checks.due("A = " + atoms + ", " + lit + " facts: compute()", x.compute(), lit);
                x.addFact(lit);
            }
            checks.due("A = " + atoms + ", all facts: compute()", x.compute(), 2 * atoms);
        }
        DefeasibleLogic x = theory(32);
        for (int rule = 0; rule < 32; rule++) {
            checks.due(rule + " conclusions of rules: compute()", x.compute(), rule);
            x.newRule(DEFEASIBLE, 2 * rule + 1);
        }
        checks.due("32 conclusions of rules: compute()", x.compute(), 32);
    }

    private static void neverRefused() {
        DefeasibleLogic x = new DefeasibleLogic(1, 1);
        dueTaken("a new object", x, 0);
        dueTaken("a computed theory", x, 0);
        x.reset();
        dueTaken("a theory after reset", x, 0);
        x.addFact(9);
        x.newRule(9, 9);
        dueTaken("a theory after refused calls", x, 0);
        x.newRule(0, 0);
        dueTaken("rules without facts", x, 1);
        x.reset();
        x.addFact(1);
        dueTaken("facts without rules", x, 1);
        dueTaken("a full theory", Theories.full(), 4);
        dueTaken("a packed theory", Theories.packed(), 64);
    }

    private static void dueTaken(String name, DefeasibleLogic x, int answer) {
        checks.due(name + ": compute()", x.compute(), answer);
        checks.due(name + ": countTag(2) after it", x.countTag(2), answer);
    }

    private static void again() {
        dueSameAgain("empty", new DefeasibleLogic(32, 32), 0);
        dueSameAgain("mixed", Theories.mixed(), 4);
        dueSameAgain("packed", Theories.packed(), 64);
        DefeasibleLogic x = Theories.mixed();
        x.addFact(3);
        dueSameAgain("mixed and changed", x, 5);
        x.addFact(3);
        x.newRule(3, 3);
        dueSameAgain("mixed and refused", x, 5);
    }

    private static void dueSameAgain(String name, DefeasibleLogic x, int answer) {
        checks.due(name + ": compute()", x.compute(), answer);
        String tags = Transcript.tags(x);
        for (int time = 2; time <= 4; time++) {
            checks.due(name + ": compute(), time " + time, x.compute(), answer);
            checks.dueSame(name + ": tags, time " + time, Transcript.tags(x), tags);
        }
    }

    /** The change takes conclusions away as well as it adds some. */
    private static void afterAddFact() {
        DefeasibleLogic x = theory(1);
        checks.rule(x, DEFEASIBLE, 0);
        due("before", x, set(), set(0, 1), set(0), set(1));
        checks.due("addFact(1)", x.addFact(1), true);
        due("a fact against the rule", x, set(1), set(0), set(1), set(0));
        checks.due("addFact(0)", x.addFact(0), true);
        due("facts on both sides", x, set(0, 1), set(), set(0, 1), set());
    }

    private static void afterNewRule() {
        DefeasibleLogic x = theory(1);
        checks.rule(x, DEFEASIBLE, 0);
        due("before", x, set(), set(0, 1), set(0), set(1));
        checks.rule(x, DEFEATER, 1);
        due("a defeater against the rule", x, set(), set(0, 1), set(), set(0, 1));
        checks.rule(x, STRICT, 1);
        due("a strict rule against it", x, set(1), set(0), set(1), set(0));
    }

    private static void afterAddBody() {
        DefeasibleLogic x = theory(2);
        checks.rule(x, STRICT, 0);
        due("before", x, set(0), set(1, 2, 3), set(0), set(1, 2, 3));
        checks.due("addBody(0, 2)", x.addBody(0, 2), true);
        due("a body that fails", x, set(), set(0, 1, 2, 3), set(), set(0, 1, 2, 3));
    }

    private static void afterAddSuperior() {
        DefeasibleLogic x = theory(1);
        checks.rule(x, DEFEASIBLE, 0);
        checks.rule(x, DEFEASIBLE, 1);
        due("before", x, set(), set(0, 1), set(), set(0, 1));
        checks.superior(x, 1, 0);
        due("with the pair", x, set(), set(0, 1), set(1), set(0));
    }

    private static void afterReset() {
        DefeasibleLogic x = theory(2);
        x.addFact(0);
        checks.rule(x, STRICT, 2, 0);
        due("before", x, set(0, 2), set(1, 3), set(0, 2), set(1, 3));
        x.reset();
        due("after reset", x, set(), set(0, 1, 2, 3), set(), set(0, 1, 2, 3));
    }

    private static void theoryStays() {
        for (int which = 0; which < 4; which++) {
            DefeasibleLogic x = which == 0 ? new DefeasibleLogic(3, 3) : which == 1 ? Theories.mixed()
                : which == 2 ? Theories.full() : Theories.packed();
            String before = Transcript.theory(x);
            x.compute();
            checks.dueSame("theory " + which + " after compute()", Transcript.theory(x), before);
            x.compute();
            checks.dueSame("theory " + which + " after compute() again", Transcript.theory(x), before);
        }
    }

    /** Nothing of an earlier result is left in any of the four sets, over any number of turns. */
    private static void startsEmpty() {
        DefeasibleLogic x = theory(2);
        for (int turn = 0; turn < 3; turn++) {
            x.addFact(0);
            x.addFact(2);
            due("turn " + turn + ", even facts", x, set(0, 2), set(1, 3), set(0, 2), set(1, 3));
            x.reset();
            x.addFact(1);
            x.addFact(3);
            due("turn " + turn + ", odd facts", x, set(1, 3), set(0, 2), set(1, 3), set(0, 2));
            x.reset();
            checks.rule(x, STRICT, 0, 0);
            checks.rule(x, STRICT, 1, 1);
            checks.rule(x, STRICT, 2, 2);
            checks.rule(x, STRICT, 3, 3);
            due("turn " + turn + ", loops", x, set(), set(), set(), set());
            x.reset();
        }
    }

    /** The first and the last included, and none beyond. */
    private static void everyLiteral() {
        for (int atoms = 1; atoms <= 32; atoms++) {
            DefeasibleLogic x = theory(atoms);
            int last = 2 * atoms - 1;
            checks.due("A = " + atoms + ", empty: compute()", x.compute(), 0);
            checks.due("A = " + atoms + ", empty: countTag(1)", x.countTag(1), 2 * atoms);
            checks.due("A = " + atoms + ", empty: countTag(3)", x.countTag(3), 2 * atoms);
            checks.rule(x, STRICT, last);
            checks.due("A = " + atoms + ": compute()", x.compute(), 1);
            checks.dueTagged("A = " + atoms, x, 0, last);
            checks.due("A = " + atoms + ": countTag(1)", x.countTag(1), 2 * atoms - 1);
        }
    }

    /**
     * -D runs down a strict chain of 31 rules and reaches the complement of its ground in round 32; only then
     * +d can start, and runs down the chain up to round 63.
     */
    private static void manyRounds() {
        for (int turn = 0; turn < 2; turn++) {
            DefeasibleLogic x = theory(32);
            int first = turn == 0 ? 0 : 60;
            int step = turn == 0 ? 2 : -2;
            checks.rule(x, DEFEASIBLE, first);
            for (int link = 1; link <= 30; link++) {
                checks.rule(x, STRICT, first + link * step, first + (link - 1) * step);
            }
            checks.rule(x, STRICT, first + 1, first + 30 * step);
            checks.superior(x, 0, 31);
            checks.due("turn " + turn + ": compute()", x.compute(), 31);
            for (int lit = 0; lit < 64; lit++) {
                boolean proved = lit % 2 == 0 && lit <= 60;
                checks.due("turn " + turn + ": hasTag(" + lit + ", 0)", x.hasTag(lit, 0), false);
                checks.due("turn " + turn + ": hasTag(" + lit + ", 1)", x.hasTag(lit, 1), true);
                checks.due("turn " + turn + ": hasTag(" + lit + ", 2)", x.hasTag(lit, 2), proved);
                checks.due("turn " + turn + ": hasTag(" + lit + ", 3)", x.hasTag(lit, 3), !proved);
            }
        }
    }

    /** Round 3 adds 4 to +D, which then equals +d, and nothing else; round 4 adds 6, which was in no set. */
    private static void roundOfPlusDefinite() {
        DefeasibleLogic x = theory(4);
        x.addFact(0);
        checks.rule(x, STRICT, 2, 0);
        checks.rule(x, STRICT, 4, 2);
        checks.rule(x, STRICT, 6, 4);
        checks.rule(x, STRICT, 7, 7);
        checks.rule(x, DEFEASIBLE, 2);
        checks.rule(x, DEFEASIBLE, 4);
        due("a strict chain of what is in +d", x, set(0, 2, 4, 6), set(1, 3, 5), set(0, 2, 4, 6), set(1, 3, 5));
    }

    /** The chain 2, 4, 6 is in no -d, for each has a rule without body that an undecided attack holds up. */
    private static void roundOfMinusDefinite() {
        DefeasibleLogic x = theory(5);
        for (int lit = 2; lit <= 6; lit += 2) {
            checks.rule(x, STRICT, lit, lit - 2);
            checks.rule(x, DEFEASIBLE, lit);
            checks.rule(x, DEFEATER, lit + 1, 8);
        }
        checks.rule(x, DEFEASIBLE, 8, 8);
        due("a strict chain that fails", x, set(), set(0, 1, 2, 3, 4, 5, 6, 7, 8, 9), set(), set(0, 1, 3, 5, 7, 9));
    }

    private static void roundOfPlusDefeasible() {
        DefeasibleLogic x = theory(5);
        checks.rule(x, DEFEASIBLE, 8, 6);
        checks.rule(x, DEFEASIBLE, 6, 4);
        checks.rule(x, DEFEASIBLE, 4, 2);
        checks.rule(x, DEFEASIBLE, 2, 0);
        checks.rule(x, DEFEASIBLE, 0);
        due("a chain", x, set(), set(0, 1, 2, 3, 4, 5, 6, 7, 8, 9), set(0, 2, 4, 6, 8), set(1, 3, 5, 7, 9));
    }

    /** Round 3 adds 2 to -d, which then equals -D, and nothing else; round 4 adds 0 to +d. */
    private static void roundOfMinusDefeasible() {
        DefeasibleLogic x = theory(3);
        checks.rule(x, STRICT, 0, 0);
        checks.rule(x, DEFEASIBLE, 0);
        checks.rule(x, DEFEATER, 1, 2);
        checks.rule(x, DEFEASIBLE, 2, 4);
        due("an attack that fails late", x, set(), set(1, 2, 3, 4, 5), set(0), set(1, 2, 3, 4, 5));
    }

    private static void plusDefiniteWithoutRule() {
        due("no rules", theory(1), set(), set(0, 1), set(), set(0, 1));
        DefeasibleLogic x = theory(2);
        checks.rule(x, DEFEASIBLE, 0);
        checks.rule(x, DEFEATER, 2);
        x.compute();
        checks.dueTagged("no STRICT rules", x, 0);
    }

    private static void plusDefiniteEmptyBody() {
        for (int head = 0; head < 64; head++) {
            DefeasibleLogic x = theory(32);
            checks.rule(x, STRICT, head);
            x.compute();
            checks.dueTagged("STRICT rule for " + head, x, 0, head);
        }
    }

    private static void minusDefiniteFact() {
        DefeasibleLogic x = theory(1);
        x.addFact(0);
        checks.rule(x, STRICT, 0, 1);
        due("a fact whose rule fails", x, set(0), set(1), set(0), set(1));
    }

    private static void minusDefiniteWithoutRule() {
        due("no rules", theory(2), set(), set(0, 1, 2, 3), set(), set(0, 1, 2, 3));
        DefeasibleLogic x = theory(2);
        checks.rule(x, DEFEASIBLE, 0);
        checks.rule(x, DEFEATER, 2);
        x.compute();
        checks.dueTagged("no STRICT rules", x, 1, 0, 1, 2, 3);
    }

    /** Nor does a second rule, with a body in -D, put the head into -D. */
    private static void minusDefiniteEmptyBody() {
        DefeasibleLogic x = theory(2);
        checks.rule(x, STRICT, 0);
        x.compute();
        checks.dueTagged("one rule", x, 1, 1, 2, 3);
        checks.rule(x, STRICT, 0, 2);
        x.compute();
        checks.dueTagged("two rules", x, 1, 1, 2, 3);
    }

    private static void noSupport() {
        DefeasibleLogic x = theory(1);
        checks.rule(x, DEFEATER, 0);
        due("a defeater alone", x, set(), set(0, 1), set(), set(0, 1));
        due("no rule", theory(1), set(), set(0, 1), set(), set(0, 1));
    }

    private static void supportWithEmptyBody() {
        for (int head = 0; head < 64; head++) {
            DefeasibleLogic x = theory(32);
            checks.rule(x, DEFEASIBLE, head);
            checks.due("rule for " + head + ": compute()", x.compute(), 1);
            checks.dueTagged("rule for " + head, x, 2, head);
        }
    }

    /** ~q is in neither +D nor -D, for its only strict rule runs in a circle. */
    private static void complementUndecided() {
        DefeasibleLogic x = theory(1);
        checks.rule(x, DEFEASIBLE, 0);
        checks.rule(x, STRICT, 1, 1);
        checks.superior(x, 0, 1);
        due("~q undecided", x, set(), set(0), set(), set());
    }

    private static void noAttack() {
        DefeasibleLogic x = theory(2);
        checks.rule(x, DEFEASIBLE, 0);
        checks.rule(x, DEFEASIBLE, 2, 0);
        due("no rule against either", x, set(), set(0, 1, 2, 3), set(0, 2), set(1, 3));
    }

    private static void attackWithEmptyBody() {
        for (int kind = DEFEASIBLE; kind <= DEFEATER; kind++) {
            DefeasibleLogic x = theory(1);
            checks.rule(x, DEFEASIBLE, 0);
            checks.rule(x, kind, 1);
            due("attack of kind " + kind, x, set(), set(0, 1), set(), set(0, 1));
        }
    }

    private static void answerWithEmptyBody() {
        for (int kind = DEFEASIBLE; kind <= DEFEATER; kind++) {
            DefeasibleLogic x = theory(1);
            checks.rule(x, DEFEASIBLE, 0);
            checks.rule(x, kind, 1);
            checks.superior(x, 0, 1);
            due("attack of kind " + kind, x, set(), set(0, 1), set(0), set(1));
        }
    }

    /** 0 runs in a circle, so it is not in -D, though its complement is a fact. */
    private static void minusDefeasibleNeedsMinusDefinite() {
        DefeasibleLogic x = theory(1);
        checks.rule(x, STRICT, 0, 0);
        x.addFact(1);
        due("a strict circle against a fact", x, set(1), set(), set(1), set());
    }

    private static void failsWithoutRule() {
        DefeasibleLogic x = theory(2);
        checks.rule(x, DEFEATER, 0);
        due("no rule, and a defeater alone", x, set(), set(0, 1, 2, 3), set(), set(0, 1, 2, 3));
    }

    /** Of two rules one fails and one has an empty body: its head is undecided, for the attack is. */
    private static void emptyBodyDoesNotFail() {
        DefeasibleLogic x = theory(3);
        checks.rule(x, DEFEASIBLE, 0);
        checks.rule(x, DEFEASIBLE, 0, 4);
        checks.rule(x, DEFEASIBLE, 1, 2);
        checks.rule(x, DEFEASIBLE, 2, 2);
        due("an undecided attack", x, set(), set(0, 1, 2, 3, 4, 5), set(), set(1, 3, 4, 5));
    }

    private static void complementProved() {
        DefeasibleLogic x = theory(1);
        checks.rule(x, DEFEASIBLE, 0);
        checks.rule(x, STRICT, 1);
        checks.superior(x, 0, 1);
        due("~q in +D, though the rule for q is superior", x, set(1), set(0), set(1), set(0));
    }

    private static void undecidedWithoutAttack() {
        DefeasibleLogic x = theory(1);
        checks.rule(x, DEFEASIBLE, 0, 0);
        due("a circle without attack", x, set(), set(0, 1), set(), set(1));
    }

    /** The rule for q neither holds nor fails, so that the attack alone decides. */
    private static void attackStands() {
        for (int kind = DEFEASIBLE; kind <= DEFEATER; kind++) {
            DefeasibleLogic x = theory(2);
            checks.rule(x, DEFEASIBLE, 0, 2);
            checks.rule(x, kind, 1);
            checks.rule(x, DEFEASIBLE, 2, 2);
            int[] proved = set();
            int[] failed = kind == DEFEASIBLE ? set(0, 3) : set(0, 1, 3);
            due("attack of kind " + kind, x, set(), set(0, 1, 2, 3), proved, failed);
        }
    }

    private static void attackAnswered() {
        DefeasibleLogic x = theory(1);
        checks.rule(x, DEFEASIBLE, 0);
        checks.rule(x, DEFEASIBLE, 1);
        due("without the pair", x, set(), set(0, 1), set(), set(0, 1));
        checks.superior(x, 0, 1);
        due("with the pair", x, set(), set(0, 1), set(0), set(1));
    }

    private static void emptyBodies() {
        DefeasibleLogic x = theory(4);
        checks.rule(x, STRICT, 0);
        checks.rule(x, DEFEASIBLE, 2);
        checks.rule(x, DEFEATER, 4);
        checks.rule(x, DEFEASIBLE, 5);
        due("a rule of each kind", x, set(0), set(1, 2, 3, 4, 5, 6, 7), set(0, 2), set(1, 3, 4, 5, 6, 7));
    }

    private static void bothFacts() {
        DefeasibleLogic x = theory(3);
        x.addFact(0);
        x.addFact(1);
        checks.rule(x, DEFEASIBLE, 0);
        checks.rule(x, DEFEATER, 1);
        checks.rule(x, STRICT, 2, 0);
        checks.rule(x, DEFEASIBLE, 3, 1);
        checks.rule(x, DEFEASIBLE, 4, 0);
        checks.rule(x, DEFEASIBLE, 5, 1);
        due("grounds on both sides", x, set(0, 1, 2), set(3, 4, 5), set(0, 1, 2), set(3, 4, 5));
        for (int atoms = 1; atoms <= 32; atoms++) {
            x = theory(atoms);
            x.addFact(2 * atoms - 1);
            x.addFact(2 * atoms - 2);
            checks.due("A = " + atoms + ": compute()", x.compute(), 2);
            checks.dueTagged("A = " + atoms, x, 0, 2 * atoms - 2, 2 * atoms - 1);
        }
    }

    private static void headInBody() {
        DefeasibleLogic x = theory(1);
        checks.rule(x, STRICT, 0, 0);
        due("STRICT, the head", x, set(), set(1), set(), set(1));
        x = theory(1);
        checks.rule(x, STRICT, 0, 1);
        due("STRICT, the complement", x, set(), set(0, 1), set(), set(0, 1));
        x.addFact(1);
        due("STRICT, the complement, which is a fact", x, set(0, 1), set(), set(0, 1), set());
        x = theory(1);
        checks.rule(x, DEFEASIBLE, 0, 1);
        due("DEFEASIBLE, the complement", x, set(), set(0, 1), set(), set(0, 1));
        x.addFact(1);
        due("DEFEASIBLE, the complement, which is a fact", x, set(1), set(0), set(1), set(0));
        x = theory(1);
        checks.rule(x, DEFEATER, 0, 0, 1);
        due("DEFEATER, both", x, set(), set(0, 1), set(), set(0, 1));
    }

    private static void overSmallTheories(Consumer<DefeasibleLogic> check) {
        Theories.forEachSmall((name, x) -> {
            x.compute();
            check.accept(x);
        });
    }

    private static void notBothDefinite(DefeasibleLogic x) {
        for (int q = 0; q < 2; q++) {
            checks.due("both of " + q, x.hasTag(q, 0) && x.hasTag(q, 1), false);
        }
    }

    private static void notBothDefeasible(DefeasibleLogic x) {
        for (int q = 0; q < 2; q++) {
            checks.due("both of " + q, x.hasTag(q, 2) && x.hasTag(q, 3), false);
        }
    }

    private static void conflictIsDefinite(DefeasibleLogic x) {
        boolean conflict = x.hasTag(0, 2) && x.hasTag(1, 2);
        checks.due("a conflict that is not definite", conflict && !(x.hasTag(0, 0) && x.hasTag(1, 0)), false);
    }

    private static void definiteAndDefeasible(DefeasibleLogic x) {
        for (int q = 0; q < 2; q++) {
            checks.due(q + " in +D alone", x.hasTag(q, 0) && !x.hasTag(q, 2), false);
            checks.due(q + " in -d alone", x.hasTag(q, 3) && !x.hasTag(q, 1), false);
        }
    }

    /** The same small theories against the reference, which takes the rounds word for word. */
    private static void leastFamily() {
        Theories.forEachSmall((name, x) -> {
            Reference due = Reference.of(x, 1, 2);
            checks.due(name + ": compute()", x.compute(), due.compute());
            for (int tag = 0; tag < 4; tag++) {
                checks.due(name + ": hasTag(0, " + tag + ")", x.hasTag(0, tag), due.hasTag(0, tag));
                checks.due(name + ": hasTag(1, " + tag + ")", x.hasTag(1, tag), due.hasTag(1, tag));
            }
        });
    }
}
