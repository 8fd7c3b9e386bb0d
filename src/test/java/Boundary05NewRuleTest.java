/** Promise 5: a test for each sentence that names a boundary case. */
public final class Boundary05NewRuleTest {
    private static final Checks checks = new Checks();

    public static void main(String[] args) {
        checks.test("1. kind is not one of STRICT, DEFEASIBLE, DEFEATER -> answer NONE", Boundary05NewRuleTest::noKind);
        checks.test("2. head is not a valid literal -> answer NONE", Boundary05NewRuleTest::noLiteral);
        checks.test("3. ruleCount() == M -> answer NONE", Boundary05NewRuleTest::atTheLimit);
        checks.test("Tests in order: two or three of them at once", Boundary05NewRuleTest::severalAtOnce);
        checks.test("Otherwise the new rule gets index ruleCount() (then ruleCount() grows by one)",
            Boundary05NewRuleTest::indexIsTheCount);
        checks.test("has the given kind and head", Boundary05NewRuleTest::kindAndHead);
        checks.test("and an empty body", Boundary05NewRuleTest::emptyBody);
        checks.test("the flag is set false, and the answer is that index.", Boundary05NewRuleTest::flagSetFalse);
        checks.test("On NONE nothing changes, the flag included.", Boundary05NewRuleTest::refusedChangesNothing);
        checks.test("Existing rules, facts and pairs are never changed.", Boundary05NewRuleTest::theRestStays);
        checks.finish();
    }

    private static void noKind() {
        DefeasibleLogic x = new DefeasibleLogic(32, 32);
        for (int kind : Ints.outside(3)) {
            checks.due("newRule(" + kind + ", 0)", x.newRule(kind, 0), -1);
            checks.due("newRule(" + kind + ", 63)", x.newRule(kind, 63), -1);
        }
        checks.due("ruleCount()", x.ruleCount(), 0);
    }

    private static void noLiteral() {
        for (int atoms = 1; atoms <= 32; atoms++) {
            DefeasibleLogic x = new DefeasibleLogic(atoms, 32);
            for (int head : Ints.outside(2 * atoms)) {
                for (int kind = 0; kind < 3; kind++) {
                    checks.due("A = " + atoms + ": newRule(" + kind + ", " + head + ")", x.newRule(kind, head), -1);
                }
            }
            checks.due("A = " + atoms + ": ruleCount()", x.ruleCount(), 0);
        }
    }

    private static void atTheLimit() {
        for (int limit = 1; limit <= 32; limit++) {
            DefeasibleLogic x = new DefeasibleLogic(3, limit);
            for (int rule = 0; rule < limit; rule++) {
                checks.due("M = " + limit + ": newRule", x.newRule(1, 0), rule);
            }
            for (int kind = 0; kind < 3; kind++) {
                for (int head = 0; head < 6; head++) {
                    checks.due("M = " + limit + ", full: newRule(" + kind + ", " + head + ")", x.newRule(kind, head), -1);
                }
            }
            checks.due("M = " + limit + ": ruleCount()", x.ruleCount(), limit);
            x.reset();
            checks.due("M = " + limit + ", after reset: newRule", x.newRule(1, 0), 0);
        }
    }

    private static void severalAtOnce() {
        int[] kinds = {Integer.MIN_VALUE, -1, 3, 4, Integer.MAX_VALUE};
        int[] heads = {Integer.MIN_VALUE, -1, 8, 64, Integer.MAX_VALUE};
        DefeasibleLogic room = Theories.mixed();
        DefeasibleLogic full = Theories.full();
        for (int kind : kinds) {
            checks.due("full: newRule(" + kind + ", 0)", full.newRule(kind, 0), -1);
            for (int head : heads) {
                checks.due("newRule(" + kind + ", " + head + ")", room.newRule(kind, head), -1);
                checks.due("full: newRule(" + kind + ", " + head + ")", full.newRule(kind, head), -1);
            }
        }
        for (int head : heads) {
            checks.due("full: newRule(1, " + head + ")", full.newRule(1, head), -1);
        }
        checks.due("ruleCount() with room", room.ruleCount(), Theories.MIXED_RULES);
        checks.due("ruleCount() without room", full.ruleCount(), Theories.MIXED_RULES);
    }

    /** Refused calls in between take no number. */
    private static void indexIsTheCount() {
        DefeasibleLogic x = new DefeasibleLogic(32, 32);
        for (int rule = 0; rule < 32; rule++) {
            checks.due("newRule(3, 0)", x.newRule(3, 0), -1);
            checks.due("newRule(0, 64)", x.newRule(0, 64), -1);
            checks.due("ruleCount() before", x.ruleCount(), rule);
            checks.due("newRule(" + rule % 3 + ", 0)", x.newRule(rule % 3, 0), rule);
            checks.due("ruleCount() after", x.ruleCount(), rule + 1);
        }
    }

    private static void kindAndHead() {
        for (int kind = 0; kind < 3; kind++) {
            for (int head = 0; head < 64; head++) {
                DefeasibleLogic x = new DefeasibleLogic(32, 1);
                x.newRule(kind, head);
                checks.due("newRule(" + kind + ", " + head + "): ruleKind(0)", x.ruleKind(0), kind);
                checks.due("newRule(" + kind + ", " + head + "): ruleHead(0)", x.ruleHead(0), head);
            }
        }
    }

    /** Also behind a rule with a full body, and where a removed rule had one. */
    private static void emptyBody() {
        DefeasibleLogic x = new DefeasibleLogic(4, 32);
        for (int rule = 0; rule < 32; rule++) {
            x.newRule(1, 0);
            checks.dueBody("rule " + rule, x, rule);
            for (int lit = 0; lit < 4; lit++) {
                x.addBody(rule, lit);
            }
        }
        x.reset();
        for (int rule = 0; rule < 32; rule++) {
            x.newRule(1, 0);
            checks.dueBody("rule " + rule + " after reset", x, rule);
        }
        checks.due("compute()", x.compute(), 1);
    }

    private static void flagSetFalse() {
        DefeasibleLogic x = new DefeasibleLogic(32, 32);
        for (int rule = 0; rule < 32; rule++) {
            x.compute();
            checks.due("countTag(2) before", x.countTag(2) >= 0, true);
            checks.due("newRule", x.newRule(rule % 3, rule), rule);
            checks.dueNotComputed("after newRule", x);
        }
    }

    private static void refusedChangesNothing() {
        for (int kind : new int[] {Integer.MIN_VALUE, -1, 3, 256, Integer.MAX_VALUE}) {
            checks.dueNone("newRule(" + kind + ", 3)", Theories::mixed, x -> x.newRule(kind, 3));
            checks.dueNone("newRule(" + kind + ", 8)", Theories::mixed, x -> x.newRule(kind, 8));
        }
        for (int head : new int[] {Integer.MIN_VALUE, -1, 8, 64, 67, Integer.MAX_VALUE}) {
            checks.dueNone("newRule(1, " + head + ")", Theories::mixed, x -> x.newRule(1, head));
        }
        for (int kind = -1; kind <= 3; kind++) {
            int tried = kind;
            checks.dueNone("full: newRule(" + kind + ", 3)", Theories::full, x -> x.newRule(tried, 3));
            checks.dueNone("full: newRule(" + kind + ", 8)", Theories::full, x -> x.newRule(tried, 8));
            checks.dueNone("packed: newRule(" + kind + ", 3)", Theories::packed, x -> x.newRule(tried, 3));
        }
        checks.dueNone("empty: newRule(3, 0)", () -> new DefeasibleLogic(1, 1), x -> x.newRule(3, 0));
        checks.dueNone("empty: newRule(0, 2)", () -> new DefeasibleLogic(1, 1), x -> x.newRule(0, 2));
    }

    private static void theRestStays() {
        DefeasibleLogic x = Theories.mixed();
        String before = Transcript.theory(x).replace("rules 5", "rules 6");
        for (int kind = 0; kind < 3; kind++) {
            DefeasibleLogic y = Theories.mixed();
            checks.due("newRule(" + kind + ", 3)", y.newRule(kind, 3), 5);
            String due = before.replace("; 5: -1 -1 ", "; 5: " + kind + " 3 ");
            checks.dueSame("theory after newRule(" + kind + ", 3)", Transcript.theory(y), due);
        }
    }
}
