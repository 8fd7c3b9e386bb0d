/** Promise 7: a test for each sentence that names a boundary case. */
public final class Boundary07AddSuperiorTest {
    private static final Checks checks = new Checks();

    public static void main(String[] args) {
        checks.test("1. stronger or weaker is not an existing rule index -> false", Boundary07AddSuperiorTest::noRule);
        checks.test("2. stronger == weaker -> false", Boundary07AddSuperiorTest::equal);
        checks.test("3. the pair (stronger, weaker) is already recorded -> false", Boundary07AddSuperiorTest::recorded);
        checks.test("4. a chain weaker = x0, x1, ..., xk = stronger (k >= 1) exists with every (x_i, x_i+1) recorded -> "
            + "false (it would close a cycle).", Boundary07AddSuperiorTest::cycles);
        checks.test("In particular, if (weaker, stronger) is recorded, the answer is false.",
            Boundary07AddSuperiorTest::turnedRound);
        checks.test("Tests in order: several of them at once", Boundary07AddSuperiorTest::severalAtOnce);
        checks.test("Otherwise the pair is recorded, the flag is set false, and the answer is true.",
            Boundary07AddSuperiorTest::otherwise);
        checks.test("Otherwise: what shares rules with a chain but closes no cycle is recorded",
            Boundary07AddSuperiorTest::noCycle);
        checks.test("On false nothing changes, the flag included.", Boundary07AddSuperiorTest::refusedChangesNothing);
        checks.test("Facts, rules and other pairs are never changed; no other pair is added.",
            Boundary07AddSuperiorTest::theRestStays);
        checks.finish();
    }

    private static void dueRefused(String name, DefeasibleLogic x, int stronger, int weaker) {
        String pair = "(" + stronger + ", " + weaker + ")";
        checks.due(name + ": addSuperior" + pair, x.addSuperior(stronger, weaker), false);
    }

    private static void noRule() {
        for (int count = 0; count <= 32; count++) {
            DefeasibleLogic x = Theories.withRules(count);
            for (int rule : Ints.outside(count)) {
                dueRefused(count + " rules", x, rule, 0);
                dueRefused(count + " rules", x, 0, rule);
                dueRefused(count + " rules", x, rule, count - 1);
                dueRefused(count + " rules", x, count - 1, rule);
                dueRefused(count + " rules", x, rule, rule + 1);
            }
            dueNoPairs(count + " rules", x);
        }
    }

    /** Also among the rules that are made after the refused calls. */
    private static void dueNoPairs(String name, DefeasibleLogic x) {
        for (int rule = 0; rule < 32; rule++) {
            x.newRule(1, 0);
        }
        for (int pair = 0; pair < 32 * 32; pair++) {
            checks.due(name + ": isSuperior", x.isSuperior(pair / 32, pair % 32), false);
        }
    }

    private static void equal() {
        for (int count = 1; count <= 32; count++) {
            DefeasibleLogic x = Theories.withRules(count);
            for (int rule = 0; rule < count; rule++) {
                dueRefused(count + " rules", x, rule, rule);
                checks.due("isSuperior(" + rule + ", " + rule + ")", x.isSuperior(rule, rule), false);
            }
        }
    }

    private static void recorded() {
        DefeasibleLogic x = Theories.withRules(32);
        for (int stronger = 31; stronger > 0; stronger--) {
            for (int weaker = 0; weaker < stronger; weaker++) {
                checks.superior(x, stronger, weaker);
                dueRefused("again at once", x, stronger, weaker);
            }
        }
        for (int stronger = 31; stronger > 0; stronger--) {
            for (int weaker = 0; weaker < stronger; weaker++) {
                dueRefused("again at the end", x, stronger, weaker);
                checks.due("isSuperior", x.isSuperior(stronger, weaker), true);
            }
        }
    }

    /** Chains with k from 1 to 31, through the rules in several orders; every way back along each is refused. */
    private static void cycles() {
        for (int step : new int[] {1, 31, 13, 7, 19}) {
            for (int k = 1; k <= 31; k++) {
                dueNoWayBack(step, k, false);
                dueNoWayBack(step, k, true);
            }
        }
    }

    private static void dueNoWayBack(int step, int k, boolean backwards) {
        DefeasibleLogic x = Theories.withRules(32);
        for (int place = 0; place < k; place++) {
            int at = backwards ? k - 1 - place : place;
            checks.superior(x, at * step % 32, (at + 1) * step % 32);
        }
        for (int from = 0; from <= k; from++) {
            dueRefused("k = " + (k - from) + ", step " + step, x, k * step % 32, from * step % 32);
            dueRefused("k = " + from + ", step " + step, x, from * step % 32, 0);
        }
        checks.due("k = " + k + ": isSuperior of the way back", x.isSuperior(k * step % 32, 0), false);
    }

    private static void turnedRound() {
        for (int stronger = 0; stronger < 32; stronger++) {
            for (int weaker = 0; weaker < 32; weaker++) {
                if (stronger != weaker) {
                    DefeasibleLogic x = Theories.withRules(32);
                    checks.superior(x, weaker, stronger);
                    dueRefused("turned round", x, stronger, weaker);
                    checks.due("isSuperior", x.isSuperior(stronger, weaker), false);
                }
            }
        }
    }

    /** No rule and equal, one no rule and the other the end of a chain. */
    private static void severalAtOnce() {
        DefeasibleLogic x = Theories.mixed();
        int[] wrong = {Integer.MIN_VALUE, -32, -1, 5, 6, 31, 32, 33, 64, Integer.MAX_VALUE};
        for (int first : wrong) {
            for (int second : wrong) {
                dueRefused("mixed", x, first, second);
            }
            dueRefused("mixed", x, first, 0);
            dueRefused("mixed", x, 3, first);
        }
        checks.dueSame("theory", Transcript.theory(x), Transcript.theory(Theories.mixed()));
    }

    private static void otherwise() {
        DefeasibleLogic x = Theories.withRules(32);
        for (int weaker = 1; weaker < 32; weaker++) {
            for (int stronger = 0; stronger < weaker; stronger++) {
                x.compute();
                checks.due("isSuperior before", x.isSuperior(stronger, weaker), false);
                checks.due("addSuperior(" + stronger + ", " + weaker + ")", x.addSuperior(stronger, weaker), true);
                checks.due("isSuperior(" + stronger + ", " + weaker + ")", x.isSuperior(stronger, weaker), true);
                checks.due("countTag(0)", x.countTag(0), -2);
                checks.due("hasTag(0, 0)", x.hasTag(0, 0), false);
                checks.due("winner(0)", x.winner(0), -2);
            }
        }
    }

    /** Forward along a chain, from outside to it and from it, two chains that meet, and a chain taken away. */
    private static void noCycle() {
        DefeasibleLogic x = Theories.withRules(9);
        for (int rule = 0; rule < 4; rule++) {
            checks.superior(x, rule, rule + 1);
        }
        checks.superior(x, 0, 4);
        checks.superior(x, 0, 2);
        checks.superior(x, 5, 2);
        checks.superior(x, 2, 6);
        checks.superior(x, 5, 6);
        checks.superior(x, 6, 4);
        checks.superior(x, 7, 8);
        checks.superior(x, 8, 0);
        checks.superior(x, 7, 4);
        dueRefused("two chains that meet", x, 4, 5);
        checks.superior(x, 5, 7);
        dueRefused("a chain through two that meet", x, 4, 5);
        x.reset();
        for (int rule = 0; rule < 9; rule++) {
            x.newRule(0, 0);
        }
        checks.superior(x, 4, 0);
        checks.superior(x, 6, 5);
    }

    private static void refusedChangesNothing() {
        for (int rule : new int[] {Integer.MIN_VALUE, -1, 5, 32, 33, Integer.MAX_VALUE}) {
            checks.dueFalse("addSuperior(" + rule + ", 0)", Theories::mixed, x -> x.addSuperior(rule, 0));
            checks.dueFalse("addSuperior(0, " + rule + ")", Theories::mixed, x -> x.addSuperior(0, rule));
            checks.dueFalse("addSuperior(" + rule + ", itself)", Theories::mixed, x -> x.addSuperior(rule, rule));
        }
        for (int rule = 0; rule < 5; rule++) {
            int tried = rule;
            checks.dueFalse("addSuperior(" + rule + ", itself)", Theories::mixed, x -> x.addSuperior(tried, tried));
        }
        for (int stronger = 0; stronger < 3; stronger++) {
            int rule = stronger;
            checks.dueFalse("recorded", Theories::mixed, x -> x.addSuperior(rule, rule + 1));
            checks.dueFalse("k = 1", Theories::mixed, x -> x.addSuperior(rule + 1, rule));
        }
        checks.dueFalse("k = 2", Theories::mixed, x -> x.addSuperior(2, 0));
        checks.dueFalse("k = 3", Theories::full, x -> x.addSuperior(3, 0));
        checks.dueFalse("k = 31", Theories::packed, x -> x.addSuperior(31, 0));
        checks.dueFalse("without rules", () -> new DefeasibleLogic(1, 1), x -> x.addSuperior(0, 0));
    }

    private static void theRestStays() {
        String before = Transcript.theory(Theories.mixed());
        DefeasibleLogic x = Theories.mixed();
        checks.superior(x, 3, 4);
        String due = before.replace("; 4: 0 6", " > 4; 4: 0 6");
        checks.dueSame("theory after addSuperior(3, 4)", Transcript.theory(x), due);
        checks.superior(x, 0, 4);
        due = due.replace("; 1: 1 4", " > 4; 1: 1 4");
        checks.dueSame("theory after addSuperior(0, 4)", Transcript.theory(x), due);
        x = Theories.mixed();
        checks.superior(x, 4, 0);
        due = before.replace("; 5: -1 -1", " > 0; 5: -1 -1");
        checks.dueSame("theory after addSuperior(4, 0), before a chain", Transcript.theory(x), due);
    }
}
