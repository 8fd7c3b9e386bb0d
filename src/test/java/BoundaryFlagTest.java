import java.util.function.Consumer;
import java.util.function.Supplier;

/** Terms: a test for each sentence on the computed flag that names a boundary case. */
public final class BoundaryFlagTest {
    private static final Checks checks = new Checks();
    private static final String SET_FALSE =
        "Every successful addFact, newRule, addBody, addSuperior and every reset sets it false: ";
    private static final String REFUSED = "A refused call changes nothing at all, the flag included: ";

    public static void main(String[] args) {
        checks.test("Initially false.", BoundaryFlagTest::initiallyFalse);
        checks.test(SET_FALSE + "addFact", BoundaryFlagTest::addFactTakesIt);
        checks.test(SET_FALSE + "newRule", BoundaryFlagTest::newRuleTakesIt);
        checks.test(SET_FALSE + "addBody", BoundaryFlagTest::addBodyTakesIt);
        checks.test(SET_FALSE + "addSuperior", BoundaryFlagTest::addSuperiorTakesIt);
        checks.test(SET_FALSE + "reset", BoundaryFlagTest::resetTakesIt);
        checks.test("compute sets it true", BoundaryFlagTest::computeSetsIt);
        checks.test(REFUSED + "addFact", BoundaryFlagTest::refusedFacts);
        checks.test(REFUSED + "newRule", BoundaryFlagTest::refusedRules);
        checks.test(REFUSED + "addBody", BoundaryFlagTest::refusedBodies);
        checks.test(REFUSED + "addSuperior", BoundaryFlagTest::refusedPairs);
        checks.test("The query methods (isFact, isSuperior, ruleCount, ruleKind, ruleHead, ruleBody, hasTag, countTag, "
            + "winner) never change anything.", BoundaryFlagTest::queriesChangeNothing);
        checks.test("The four sets stay as computed until the flag is set false", BoundaryFlagTest::setsStay);
        checks.test("while the flag is false all tag queries (hasTag, countTag, winner) answer as stated for the "
            + "not-computed case.", BoundaryFlagTest::notComputed);
        checks.finish();
    }

    private static void initiallyFalse() {
        for (int size = 0; size <= 33; size++) {
            checks.dueNotComputed("new(" + size + ", " + size + ")", new DefeasibleLogic(size, size));
        }
        checks.dueNotComputed("before any compute", Theories.mixed());
    }

    private static void dueTaken(String name, Supplier<DefeasibleLogic> make, Consumer<DefeasibleLogic> change) {
        DefeasibleLogic x = make.get();
        x.compute();
        checks.due(name + ": computed before", x.countTag(0) >= 0, true);
        change.accept(x);
        checks.dueNotComputed(name, x);
    }

    private static void addFactTakesIt() {
        for (int fact = 2; fact < 8; fact++) {
            int lit = fact;
            dueTaken("addFact(" + lit + ")", Theories::mixed, x -> checks.due("addFact", x.addFact(lit), true));
        }
        dueTaken("the last fact of all", BoundaryFlagTest::allButOneFact, x -> checks.due("addFact", x.addFact(63), true));
    }

    private static DefeasibleLogic allButOneFact() {
        DefeasibleLogic x = new DefeasibleLogic(32, 1);
        for (int lit = 0; lit < 63; lit++) {
            x.addFact(lit);
        }
        return x;
    }

    private static void newRuleTakesIt() {
        for (int choice = 0; choice < 24; choice++) {
            int kind = choice / 8;
            int head = choice % 8;
            dueTaken("newRule(" + kind + ", " + head + ")", Theories::mixed,
                x -> checks.due("newRule", x.newRule(kind, head), Theories.MIXED_RULES));
        }
        dueTaken("the last rule of all", () -> Theories.withRules(31), x -> checks.due("newRule", x.newRule(0, 0), 31));
    }

    private static void addBodyTakesIt() {
        dueTaken("addBody to an empty body", Theories::full, x -> checks.due("addBody", x.addBody(2, 0), true));
        dueTaken("addBody to a body of one", Theories::full, x -> checks.due("addBody", x.addBody(1, 0), true));
        dueTaken("addBody to a body of two", Theories::full, x -> checks.due("addBody", x.addBody(0, 7), true));
        dueTaken("the last place of a body", BoundaryFlagTest::threeInABody,
            x -> checks.due("addBody", x.addBody(0, 3), true));
    }

    private static DefeasibleLogic threeInABody() {
        DefeasibleLogic x = new DefeasibleLogic(2, 1);
        checks.rule(x, 1, 0, 0, 1, 2);
        return x;
    }

    private static void addSuperiorTakesIt() {
        dueTaken("a pair beside a chain", Theories::full, x -> checks.due("addSuperior", x.addSuperior(0, 3), true));
        dueTaken("a pair at the end of a chain", Theories::full, x -> checks.due("addSuperior", x.addSuperior(3, 4), true));
        dueTaken("a pair before a chain", Theories::full, x -> checks.due("addSuperior", x.addSuperior(4, 0), true));
        dueTaken("the first pair", () -> Theories.withRules(32),
            x -> checks.due("addSuperior", x.addSuperior(31, 0), true));
    }

    private static void resetTakesIt() {
        dueTaken("reset of a theory", Theories::mixed, DefeasibleLogic::reset);
        dueTaken("reset of a full theory", Theories::packed, DefeasibleLogic::reset);
        dueTaken("reset of an empty theory", () -> new DefeasibleLogic(3, 3), DefeasibleLogic::reset);
    }

    private static void computeSetsIt() {
        DefeasibleLogic x = new DefeasibleLogic(4, 4);
        checks.due("compute() of a new object", x.compute(), 0);
        checks.due("countTag(2) of a new object", x.countTag(2), 0);
        checks.due("hasTag(7, 1) of a new object", x.hasTag(7, 1), true);
        checks.due("winner(7) of a new object", x.winner(7), -1);
        x.reset();
        checks.due("compute() after reset", x.compute(), 0);
        checks.due("countTag(1) after reset", x.countTag(1), 8);
        x = Theories.mixed();
        checks.due("compute() of a theory", x.compute(), 4);
        checks.due("countTag(2) of a theory", x.countTag(2), 4);
        checks.due("compute() again", x.compute(), 4);
        checks.due("countTag(2) again", x.countTag(2), 4);
        x.addFact(3);
        checks.due("compute() after a change", x.compute(), 5);
        checks.due("countTag(2) after a change", x.countTag(2), 5);
    }

    private static void refusedFacts() {
        checks.dueFalse("addFact(-1)", Theories::mixed, x -> x.addFact(-1));
        checks.dueFalse("addFact(8)", Theories::mixed, x -> x.addFact(8));
        checks.dueFalse("addFact(0), a fact", Theories::mixed, x -> x.addFact(0));
        checks.dueFalse("addFact(63), a fact", Theories::packed, x -> x.addFact(63));
    }

    private static void refusedRules() {
        checks.dueNone("newRule(3, 0)", Theories::mixed, x -> x.newRule(3, 0));
        checks.dueNone("newRule(-1, 0)", Theories::mixed, x -> x.newRule(-1, 0));
        checks.dueNone("newRule(0, 8)", Theories::mixed, x -> x.newRule(0, 8));
        checks.dueNone("newRule(0, -1)", Theories::mixed, x -> x.newRule(0, -1));
        checks.dueNone("newRule(1, 7) at the limit", Theories::full, x -> x.newRule(1, 7));
        checks.dueNone("newRule(1, 7) at the greatest limit", Theories::packed, x -> x.newRule(1, 7));
    }

    private static void refusedBodies() {
        checks.dueFalse("addBody(5, 0), no rule", Theories::mixed, x -> x.addBody(5, 0));
        checks.dueFalse("addBody(-1, 0), no rule", Theories::mixed, x -> x.addBody(-1, 0));
        checks.dueFalse("addBody(2, 8), no literal", Theories::mixed, x -> x.addBody(2, 8));
        checks.dueFalse("addBody(2, -1), no literal", Theories::mixed, x -> x.addBody(2, -1));
        checks.dueFalse("addBody(3, 0), a full body", Theories::mixed, x -> x.addBody(3, 0));
        checks.dueFalse("addBody(0, 1), in the body", Theories::mixed, x -> x.addBody(0, 1));
    }

    private static void refusedPairs() {
        checks.dueFalse("addSuperior(0, 5), no rule", Theories::mixed, x -> x.addSuperior(0, 5));
        checks.dueFalse("addSuperior(-1, 0), no rule", Theories::mixed, x -> x.addSuperior(-1, 0));
        checks.dueFalse("addSuperior(4, 4), equal", Theories::mixed, x -> x.addSuperior(4, 4));
        checks.dueFalse("addSuperior(1, 2), recorded", Theories::mixed, x -> x.addSuperior(1, 2));
        checks.dueFalse("addSuperior(2, 1), turned round", Theories::mixed, x -> x.addSuperior(2, 1));
        checks.dueFalse("addSuperior(3, 0), a cycle", Theories::mixed, x -> x.addSuperior(3, 0));
    }

    private static void queriesChangeNothing() {
        for (int query = 0; query < 9; query++) {
            int which = query;
            Consumer<DefeasibleLogic> ask = x -> askAll(x, which);
            checks.dueUnchanged("query " + which + " of a new object", () -> new DefeasibleLogic(4, 4), ask);
            checks.dueUnchanged("query " + which + " before compute", Theories::mixed, ask);
            checks.dueUnchanged("query " + which + " after compute", Checks.computed(Theories::mixed), ask);
            checks.dueUnchanged("query " + which + " of a full object", Checks.computed(Theories::packed), ask);
        }
    }

    private static void askAll(DefeasibleLogic x, int query) {
        int[] ints = {-1, 0, 1, 2, 3, 4, 5, 7, 8, 31, 32, 63, 64, Integer.MIN_VALUE, Integer.MAX_VALUE};
        for (int first : ints) {
            for (int second : ints) {
                ask(x, query, first, second);
            }
        }
    }

    private static void ask(DefeasibleLogic x, int query, int first, int second) {
        switch (query) {
            case 0 -> x.isFact(first);
            case 1 -> x.isSuperior(first, second);
            case 2 -> x.ruleCount();
            case 3 -> x.ruleKind(first);
            case 4 -> x.ruleHead(first);
            case 5 -> x.ruleBody(first, second);
            case 6 -> x.hasTag(first, second);
            case 7 -> x.countTag(first);
            default -> x.winner(first);
        }
    }

    private static void setsStay() {
        DefeasibleLogic x = Theories.full();
        checks.due("compute()", x.compute(), 4);
        String tags = Transcript.tags(x);
        for (int query = 0; query < 9; query++) {
            askAll(x, query);
            checks.dueSame("tags after query " + query, Transcript.tags(x), tags);
        }
        checks.due("addFact(0), a fact", x.addFact(0), false);
        checks.due("newRule(0, 7) at the limit", x.newRule(0, 7), -1);
        checks.due("addBody(3, 0), a full body", x.addBody(3, 0), false);
        checks.due("addSuperior(3, 0), a cycle", x.addSuperior(3, 0), false);
        checks.dueSame("tags after refused calls", Transcript.tags(x), tags);
        x.compute();
        checks.dueSame("tags after compute", Transcript.tags(x), tags);
        checks.due("addFact(7)", x.addFact(7), true);
        checks.dueNotComputed("after a change", x);
    }

    /** However it came to be false, whatever was computed before, and whatever else is called then. */
    private static void notComputed() {
        DefeasibleLogic x = Checks.computed(Theories::packed).get();
        checks.due("countTag(2) of a packed theory", x.countTag(2), 64);
        x.reset();
        checks.dueNotComputed("after reset", x);
        checks.due("addFact(5)", x.addFact(5), true);
        checks.dueNotComputed("after addFact", x);
        checks.due("newRule(1, 3)", x.newRule(1, 3), 0);
        checks.due("newRule(1, 2)", x.newRule(1, 2), 1);
        checks.dueNotComputed("after newRule", x);
        checks.due("addBody(0, 5)", x.addBody(0, 5), true);
        checks.dueNotComputed("after addBody", x);
        checks.due("addSuperior(0, 1)", x.addSuperior(0, 1), true);
        checks.dueNotComputed("after addSuperior", x);
        checks.due("addFact(5) again", x.addFact(5), false);
        checks.dueNotComputed("after a refused call", x);
        for (int query = 0; query < 9; query++) {
            askAll(x, query);
        }
        checks.dueNotComputed("after queries", x);
        checks.due("compute()", x.compute(), 2);
        checks.due("winner(3)", x.winner(3), 0);
    }
}
