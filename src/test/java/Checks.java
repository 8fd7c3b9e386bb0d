import java.util.function.Consumer;
import java.util.function.Predicate;
import java.util.function.Supplier;
import java.util.function.ToIntFunction;

/** Collects the calls whose answer is not the one that is due. */
final class Checks {
    /** Ints that no literal, rule, kind, tag or body index may be, beside the ones near a limit. */
    static final int[] FAR = {
        Integer.MIN_VALUE, Integer.MIN_VALUE + 1, -64, -32, -3, -2, -1,
        64, 65, 128, 256, 1 << 30, Integer.MAX_VALUE - 1, Integer.MAX_VALUE
    };

    private int wrong = 0;
    private int checked = 0;
    private String sentence = "";

    /** A test of one sentence of the document; an exception breaks it as a wrong answer does. */
    void test(String words, Runnable body) {
        sentence = "[" + words + "] ";
        checked = 0;
        try {
            body.run();
        } catch (RuntimeException | StackOverflowError thrown) {
            fail("threw " + thrown);
        }
        if (checked == 0) {
            fail("has a test that checks nothing");
        }
        sentence = "";
    }

    private void fail(String what) {
        wrong++;
        System.out.println(sentence + what);
    }

    void due(String call, long got, long want) {
        checked++;
        if (got != want) {
            fail(call + " answered " + got + ", due is " + want);
        }
    }

    void due(String call, boolean got, boolean want) {
        checked++;
        if (got != want) {
            fail(call + " answered " + got + ", due is " + want);
        }
    }

    void dueSame(String what, String got, String want) {
        checked++;
        if (!got.equals(want)) {
            int at = 0;
            while (at < got.length() && at < want.length() && got.charAt(at) == want.charAt(at)) {
                at++;
            }
            fail(what + " differs: got .." + part(got, at) + ".., due is .." + part(want, at) + "..");
        }
    }

    private static String part(String text, int at) {
        return text.substring(Math.max(0, at - 40), Math.min(text.length(), at + 20));
    }

    /** The literals of 'want' have the tag, and no other int from -2 to 66 has it. */
    void dueTagged(String name, DefeasibleLogic x, int tag, int... want) {
        for (int lit = -2; lit <= 66; lit++) {
            boolean wanted = false;
            for (int literal : want) {
                wanted |= literal == lit;
            }
            due(name + ": hasTag(" + lit + ", " + tag + ")", x.hasTag(lit, tag), wanted);
        }
        due(name + ": countTag(" + tag + ")", x.countTag(tag), want.length);
    }

    /** Computes; the sets are due in the order +D, -D, +d, -d. */
    void dueSets(String name, DefeasibleLogic x, int[]... sets) {
        due(name + ": compute()", x.compute(), sets[2].length);
        for (int tag = 0; tag < 4; tag++) {
            dueTagged(name, x, tag, sets[tag]);
        }
    }

    void dueBody(String name, DefeasibleLogic x, int rule, int... want) {
        for (int index = -2; index <= 6; index++) {
            int wanted = index >= 0 && index < want.length ? want[index] : -1;
            due(name + ": ruleBody(" + rule + ", " + index + ")", x.ruleBody(rule, index), wanted);
        }
    }

    /** Every tag query, with right and wrong arguments, answers as it must while the flag is false. */
    void dueNotComputed(String name, DefeasibleLogic x) {
        for (int lit = -2; lit <= 66; lit++) {
            for (int tag = -2; tag <= 5; tag++) {
                due(name + ": hasTag(" + lit + ", " + tag + ")", x.hasTag(lit, tag), false);
            }
            due(name + ": winner(" + lit + ")", x.winner(lit), -2);
        }
        for (int tag = -2; tag <= 5; tag++) {
            due(name + ": countTag(" + tag + ")", x.countTag(tag), -2);
        }
        for (int far : FAR) {
            due(name + ": countTag(" + far + ")", x.countTag(far), -2);
            due(name + ": winner(" + far + ")", x.winner(far), -2);
            due(name + ": hasTag(0, " + far + ")", x.hasTag(0, far), false);
            due(name + ": hasTag(" + far + ", 1)", x.hasTag(far, 1), false);
        }
    }

    /** The call answers false, and no later call can tell the object from one that never had it. */
    void dueFalse(String name, Supplier<DefeasibleLogic> make, Predicate<DefeasibleLogic> call) {
        dueRefused(name, make, x -> call.test(x) ? 1 : 0, 0);
    }

    /** The call answers NONE, and no later call can tell the object from one that never had it. */
    void dueNone(String name, Supplier<DefeasibleLogic> make, ToIntFunction<DefeasibleLogic> call) {
        dueRefused(name, make, call, -1);
    }

    /** With the flag false and with the flag true. */
    private void dueRefused(String name, Supplier<DefeasibleLogic> make, ToIntFunction<DefeasibleLogic> call, int answer) {
        dueUnchanged(name + " before compute", make, x -> due(name + " before compute", call.applyAsInt(x), answer));
        dueUnchanged(name + " after compute", computed(make), x -> due(name + " after compute", call.applyAsInt(x), answer));
    }

    static Supplier<DefeasibleLogic> computed(Supplier<DefeasibleLogic> make) {
        return () -> {
            DefeasibleLogic x = make.get();
            x.compute();
            return x;
        };
    }

    /** Two objects have the calls, so that the queries after them on the one cannot hide a change from the other. */
    void dueUnchanged(String name, Supplier<DefeasibleLogic> make, Consumer<DefeasibleLogic> calls) {
        DefeasibleLogic asked = make.get();
        calls.accept(asked);
        dueSame(name + ", the queries after it", Transcript.queries(asked), Transcript.queries(make.get()));
        DefeasibleLogic used = make.get();
        calls.accept(used);
        dueSame(name + ", later calls", Transcript.future(used), Transcript.future(make.get()));
    }

    /** Adds a rule with its body; the test goes on only if nothing of it is refused. */
    int rule(DefeasibleLogic x, int kind, int head, int... body) {
        int rule = x.newRule(kind, head);
        due("newRule(" + kind + ", " + head + ") is taken", rule >= 0, true);
        for (int lit : body) {
            due("addBody(" + rule + ", " + lit + ")", x.addBody(rule, lit), true);
        }
        return rule;
    }

    void superior(DefeasibleLogic x, int stronger, int weaker) {
        due("addSuperior(" + stronger + ", " + weaker + ")", x.addSuperior(stronger, weaker), true);
    }

    boolean clean() {
        return wrong == 0;
    }

    /** Ends the test: with exit code 1 if an answer was wrong. */
    void finish() {
        System.out.println(wrong == 0 ? "all answers are as due" : wrong + " answers are not as due");
        if (wrong != 0) {
            System.exit(1);
        }
    }
}
