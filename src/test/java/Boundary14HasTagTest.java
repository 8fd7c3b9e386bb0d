import java.util.function.Consumer;

/** Promise 14: a test for each sentence that names a boundary case. */
public final class Boundary14HasTagTest {
    private static final Checks checks = new Checks();

    public static void main(String[] args) {
        checks.test("answers false if the flag is false", Boundary14HasTagTest::flagFalse);
        checks.test("answers false if lit is not a valid literal", Boundary14HasTagTest::noLiteral);
        checks.test("answers false if tag is not one of the four tags", Boundary14HasTagTest::noTag);
        checks.test("answers false if several of these hold at once", Boundary14HasTagTest::severalAtOnce);
        checks.test("otherwise it answers true iff lit is in the set of tag (PLUS_DEFINITE for +D)",
            Boundary14HasTagTest::plusDefinite);
        checks.test("otherwise it answers true iff lit is in the set of tag (MINUS_DEFINITE for -D)",
            Boundary14HasTagTest::minusDefinite);
        checks.test("otherwise it answers true iff lit is in the set of tag (PLUS_DEFEASIBLE for +d)",
            Boundary14HasTagTest::plusDefeasible);
        checks.test("otherwise it answers true iff lit is in the set of tag (MINUS_DEFEASIBLE for -d)",
            Boundary14HasTagTest::minusDefeasible);
        checks.test("as last computed.", Boundary14HasTagTest::asLastComputed);
        checks.test("It changes nothing.", Boundary14HasTagTest::changesNothing);
        checks.test("for every int L at every moment: hasTag(L, PLUS_DEFINITE) and hasTag(L, MINUS_DEFINITE) are never "
            + "both true", () -> atEveryMoment(x -> notBoth(x, 0, 1)));
        checks.test("hasTag(L, PLUS_DEFEASIBLE) and hasTag(L, MINUS_DEFEASIBLE) are never both true",
            () -> atEveryMoment(x -> notBoth(x, 2, 3)));
        checks.test("and if hasTag(L, PLUS_DEFEASIBLE) and hasTag(L xor 1, PLUS_DEFEASIBLE) are both true, then "
            + "hasTag(L, PLUS_DEFINITE) and hasTag(L xor 1, PLUS_DEFINITE) are both true.",
            () -> atEveryMoment(Boundary14HasTagTest::conflictIsDefinite));
        checks.finish();
    }

    private static void dueAllFalse(String name, DefeasibleLogic x) {
        for (int lit = -2; lit <= 65; lit++) {
            for (int tag = -2; tag <= 5; tag++) {
                checks.due(name + ": hasTag(" + lit + ", " + tag + ")", x.hasTag(lit, tag), false);
            }
        }
    }

    /** Never computed, and after each call that sets the flag false. */
    private static void flagFalse() {
        dueAllFalse("new object", new DefeasibleLogic(32, 32));
        dueAllFalse("before compute", Theories.packed());
        for (Consumer<DefeasibleLogic> change : Theories.changes()) {
            DefeasibleLogic x = Checks.computed(Theories::mixed).get();
            checks.due("computed: hasTag(0, 0)", x.hasTag(0, 0), true);
            change.accept(x);
            dueAllFalse("after a change", x);
        }
    }

    /** With every literal in +D and +d, and with every one in -D and -d. */
    private static void noLiteral() {
        for (int atoms = 1; atoms <= 32; atoms++) {
            DefeasibleLogic all = new DefeasibleLogic(atoms, 1);
            for (int lit = 0; lit < 2 * atoms; lit++) {
                all.addFact(lit);
            }
            all.compute();
            DefeasibleLogic none = new DefeasibleLogic(atoms, 1);
            none.compute();
            for (int lit : Ints.outside(2 * atoms)) {
                for (int tag = 0; tag < 4; tag++) {
                    checks.due("A = " + atoms + ", all: hasTag(" + lit + ", " + tag + ")", all.hasTag(lit, tag), false);
                    checks.due("A = " + atoms + ", none: hasTag(" + lit + ", " + tag + ")", none.hasTag(lit, tag), false);
                }
            }
        }
    }

    private static void noTag() {
        DefeasibleLogic x = Checks.computed(Theories::mixed).get();
        for (int tag : Ints.outside(4)) {
            for (int lit = 0; lit < 8; lit++) {
                checks.due("hasTag(" + lit + ", " + tag + ")", x.hasTag(lit, tag), false);
            }
        }
    }

    private static void severalAtOnce() {
        DefeasibleLogic computed = Checks.computed(Theories::packed).get();
        DefeasibleLogic changed = Theories.packed();
        for (int lit : Ints.outside(64)) {
            for (int tag : Ints.outside(4)) {
                checks.due("computed: hasTag(" + lit + ", " + tag + ")", computed.hasTag(lit, tag), false);
                checks.due("not computed: hasTag(" + lit + ", " + tag + ")", changed.hasTag(lit, tag), false);
            }
            checks.due("not computed: hasTag(" + lit + ", 0)", changed.hasTag(lit, 0), false);
        }
    }

    private static void plusDefinite() {
        checks.dueTagged("mixed", Checks.computed(Theories::mixed).get(), DefeasibleLogic.PLUS_DEFINITE, 0, 1, 2);
        dueEachLiteral(DefeasibleLogic.PLUS_DEFINITE, true);
    }

    private static void minusDefinite() {
        checks.dueTagged("mixed", Checks.computed(Theories::mixed).get(), DefeasibleLogic.MINUS_DEFINITE, 3, 4, 5, 7);
        dueEachLiteral(DefeasibleLogic.MINUS_DEFINITE, false);
    }

    private static void plusDefeasible() {
        checks.dueTagged("mixed", Checks.computed(Theories::mixed).get(), DefeasibleLogic.PLUS_DEFEASIBLE, 0, 1, 2, 4);
        dueEachLiteral(DefeasibleLogic.PLUS_DEFEASIBLE, true);
    }

    private static void minusDefeasible() {
        checks.dueTagged("mixed", Checks.computed(Theories::mixed).get(), DefeasibleLogic.MINUS_DEFEASIBLE, 3, 5, 7);
        dueEachLiteral(DefeasibleLogic.MINUS_DEFEASIBLE, false);
    }

    /** With one fact, 'ofFact' tells whether the fact has the tag or all the others have it. */
    private static void dueEachLiteral(int tag, boolean ofFact) {
        for (int fact = 0; fact < 64; fact++) {
            DefeasibleLogic x = new DefeasibleLogic(32, 1);
            x.addFact(fact);
            x.compute();
            for (int lit = 0; lit < 64; lit++) {
                boolean due = (lit == fact) == ofFact;
                checks.due("fact " + fact + ": hasTag(" + lit + ", " + tag + ")", x.hasTag(lit, tag), due);
            }
        }
    }

    private static void asLastComputed() {
        DefeasibleLogic x = new DefeasibleLogic(1, 2);
        x.newRule(1, 0);
        x.compute();
        checks.due("hasTag(0, 2) at first", x.hasTag(0, 2), true);
        checks.due("hasTag(1, 3) at first", x.hasTag(1, 3), true);
        x.addFact(1);
        x.compute();
        checks.due("hasTag(0, 2) after a fact", x.hasTag(0, 2), false);
        checks.due("hasTag(0, 3) after a fact", x.hasTag(0, 3), true);
        checks.due("hasTag(1, 0) after a fact", x.hasTag(1, 0), true);
        x.reset();
        x.compute();
        checks.due("hasTag(1, 0) after reset", x.hasTag(1, 0), false);
        checks.due("hasTag(1, 1) after reset", x.hasTag(1, 1), true);
    }

    private static void changesNothing() {
        int[] lits = {Integer.MIN_VALUE, -1, 0, 4, 6, 7, 8, 64, Integer.MAX_VALUE};
        int[] tags = {Integer.MIN_VALUE, -1, 0, 1, 2, 3, 4, Integer.MAX_VALUE};
        for (int lit : lits) {
            for (int tag : tags) {
                String call = "hasTag(" + lit + ", " + tag + ")";
                checks.dueUnchanged(call, Theories::mixed, x -> x.hasTag(lit, tag));
                checks.dueUnchanged(call, Checks.computed(Theories::full), x -> x.hasTag(lit, tag));
            }
        }
    }

    /** New, holding something, computed with both sides of an atom proved, changed, computed again and reset. */
    private static void atEveryMoment(Consumer<DefeasibleLogic> check) {
        for (int atoms : new int[] {1, 2, 31, 32}) {
            DefeasibleLogic x = new DefeasibleLogic(atoms, 32);
            check.accept(x);
            x.addFact(0);
            x.newRule(1, 2 * atoms - 1);
            x.newRule(1, 2 * atoms - 2);
            check.accept(x);
            x.compute();
            check.accept(x);
            x.addFact(1);
            x.newRule(0, 2 * atoms - 1);
            check.accept(x);
            x.compute();
            check.accept(x);
            x.addFact(2 * atoms - 2);
            x.compute();
            check.accept(x);
            x.reset();
            check.accept(x);
        }
        check.accept(Checks.computed(Theories::mixed).get());
        check.accept(Checks.computed(Theories::packed).get());
    }

    private static int[] someInts() {
        int[] outside = Ints.outside(64);
        int[] ints = new int[64 + outside.length];
        for (int lit = 0; lit < 64; lit++) {
            ints[lit] = lit;
        }
        System.arraycopy(outside, 0, ints, 64, outside.length);
        return ints;
    }

    private static void notBoth(DefeasibleLogic x, int tag, int other) {
        for (int lit : someInts()) {
            checks.due("both of " + lit, x.hasTag(lit, tag) && x.hasTag(lit, other), false);
        }
    }

    private static void conflictIsDefinite(DefeasibleLogic x) {
        for (int lit : someInts()) {
            if (x.hasTag(lit, 2) && x.hasTag(lit ^ 1, 2)) {
                checks.due("hasTag(" + lit + ", 0)", x.hasTag(lit, 0), true);
                checks.due("hasTag(" + (lit ^ 1) + ", 0)", x.hasTag(lit ^ 1, 0), true);
            }
        }
    }
}
