import java.util.function.Consumer;

/** Promise 15: a test for each sentence that names a boundary case. */
public final class Boundary15CountTagTest {
    private static final Checks checks = new Checks();

    public static void main(String[] args) {
        checks.test("the flag is false -> NOT_COMPUTED", Boundary15CountTagTest::flagFalse);
        checks.test("tag is not one of the four tags -> NONE.", Boundary15CountTagTest::noTag);
        checks.test("tests in order: the flag is false and tag is not one of the four tags -> NOT_COMPUTED",
            Boundary15CountTagTest::flagFirst);
        checks.test("Otherwise it answers the number of valid literals in the set of tag", Boundary15CountTagTest::perTag);
        checks.test("a value from 0 to 2*A.", Boundary15CountTagTest::fromNoneToAll);
        checks.test("countTag(PLUS_DEFEASIBLE) equals the answer of the last compute while the flag stays true.",
            Boundary15CountTagTest::answerOfCompute);
        checks.test("It changes nothing.", Boundary15CountTagTest::changesNothing);
        checks.finish();
    }

    /** Never computed, and after each call that sets the flag false. */
    private static void flagFalse() {
        for (int tag = 0; tag < 4; tag++) {
            checks.due("new object: countTag(" + tag + ")", new DefeasibleLogic(1, 1).countTag(tag), -2);
            checks.due("before compute: countTag(" + tag + ")", Theories.mixed().countTag(tag), -2);
            for (Consumer<DefeasibleLogic> change : Theories.changes()) {
                DefeasibleLogic x = Checks.computed(Theories::mixed).get();
                checks.due("computed: countTag(" + tag + ")", x.countTag(tag), new int[] {3, 4, 4, 3}[tag]);
                change.accept(x);
                checks.due("after a change: countTag(" + tag + ")", x.countTag(tag), -2);
            }
        }
    }

    private static void noTag() {
        DefeasibleLogic empty = Checks.computed(() -> new DefeasibleLogic(1, 1)).get();
        DefeasibleLogic packed = Checks.computed(Theories::packed).get();
        for (int tag : Ints.outside(4)) {
            checks.due("empty: countTag(" + tag + ")", empty.countTag(tag), -1);
            checks.due("packed: countTag(" + tag + ")", packed.countTag(tag), -1);
        }
    }

    private static void flagFirst() {
        for (int tag : Ints.outside(4)) {
            checks.due("new object: countTag(" + tag + ")", new DefeasibleLogic(1, 1).countTag(tag), -2);
            checks.due("before compute: countTag(" + tag + ")", Theories.mixed().countTag(tag), -2);
            for (Consumer<DefeasibleLogic> change : Theories.changes()) {
                DefeasibleLogic x = Checks.computed(Theories::mixed).get();
                change.accept(x);
                checks.due("after a change: countTag(" + tag + ")", x.countTag(tag), -2);
            }
        }
    }

    private static void perTag() {
        DefeasibleLogic x = Checks.computed(Theories::mixed).get();
        checks.due("countTag(PLUS_DEFINITE)", x.countTag(DefeasibleLogic.PLUS_DEFINITE), 3);
        checks.due("countTag(MINUS_DEFINITE)", x.countTag(DefeasibleLogic.MINUS_DEFINITE), 4);
        checks.due("countTag(PLUS_DEFEASIBLE)", x.countTag(DefeasibleLogic.PLUS_DEFEASIBLE), 4);
        checks.due("countTag(MINUS_DEFEASIBLE)", x.countTag(DefeasibleLogic.MINUS_DEFEASIBLE), 3);
    }

    /** For every A and every tag: none, all, and each number between. */
    private static void fromNoneToAll() {
        for (int atoms = 1; atoms <= 32; atoms++) {
            DefeasibleLogic x = new DefeasibleLogic(atoms, 1);
            for (int facts = 0; facts <= 2 * atoms; facts++) {
                x.compute();
                for (int tag = 0; tag < 4; tag++) {
                    int due = tag % 2 == 0 ? facts : 2 * atoms - facts;
                    checks.due("A = " + atoms + ", " + facts + " facts: countTag(" + tag + ")", x.countTag(tag), due);
                }
                x.addFact(2 * atoms - 1 - facts);
            }
        }
    }

    /** Also after refused calls and queries; a change takes the number away. */
    private static void answerOfCompute() {
        DefeasibleLogic x = Theories.mixed();
        for (int fact = 2; fact < 8; fact++) {
            int answer = x.compute();
            checks.due("countTag(2)", x.countTag(2), answer);
            checks.due("addFact(0) again", x.addFact(0), false);
            checks.due("newRule(3, 0)", x.newRule(3, 0), -1);
            checks.due("addBody(3, 0)", x.addBody(3, 0), false);
            checks.due("addSuperior(3, 0)", x.addSuperior(3, 0), false);
            Transcript.queries(x);
            checks.due("countTag(2) after refused calls and queries", x.countTag(2), answer);
            checks.due("compute() again", x.compute(), answer);
            checks.due("addFact(" + fact + ")", x.addFact(fact), true);
            checks.due("countTag(2) after a change", x.countTag(2), -2);
        }
    }

    private static void changesNothing() {
        for (int tag : new int[] {Integer.MIN_VALUE, -1, 0, 1, 2, 3, 4, Integer.MAX_VALUE}) {
            checks.dueUnchanged("countTag(" + tag + ")", Theories::mixed, x -> x.countTag(tag));
            checks.dueUnchanged("countTag(" + tag + ")", Checks.computed(Theories::full), x -> x.countTag(tag));
        }
    }
}
