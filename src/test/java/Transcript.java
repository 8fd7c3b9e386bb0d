/** What an object answers, written down, so that two objects can be compared. */
final class Transcript {
    private Transcript() {
    }

    /** The facts, the rules and the pairs: no answer here depends on the flag. */
    static String theory(DefeasibleLogic x) {
        StringBuilder out = new StringBuilder("facts");
        for (int lit = -2; lit <= 65; lit++) {
            out.append(x.isFact(lit) ? " " + lit : "");
        }
        out.append(" rules ").append(x.ruleCount());
        for (int rule = -2; rule <= 33; rule++) {
            out.append("; ").append(rule).append(": ").append(x.ruleKind(rule)).append(' ').append(x.ruleHead(rule));
            for (int index = -1; index <= 4; index++) {
                out.append(' ').append(x.ruleBody(rule, index));
            }
            for (int weaker = -2; weaker <= 33; weaker++) {
                out.append(x.isSuperior(rule, weaker) ? " > " + weaker : "");
            }
        }
        return out.toString();
    }

    static String tags(DefeasibleLogic x) {
        StringBuilder out = new StringBuilder();
        for (int tag = -2; tag <= 5; tag++) {
            out.append("; tag ").append(tag).append(": ").append(x.countTag(tag));
            for (int lit = -2; lit <= 65; lit++) {
                out.append(x.hasTag(lit, tag) ? " " + lit : "");
            }
        }
        out.append("; winners");
        for (int lit = -2; lit <= 65; lit++) {
            out.append(' ').append(x.winner(lit));
        }
        return out.toString();
    }

    /** The tags first: a query of the theory that took the flag away would hide that another call did so. */
    static String queries(DefeasibleLogic x) {
        return tags(x) + theory(x);
    }

    /** The answers to a long run of later calls, which uses the object up. */
    static String future(DefeasibleLogic x) {
        StringBuilder out = new StringBuilder("compute ").append(x.compute()).append(' ').append(queries(x));
        out.append(" then pairs ");
        for (int pair = 0; pair < 34 * 34; pair++) {
            out.append(bit(x.addSuperior(pair * 5 % 34, pair / 34)));
        }
        out.append(" bodies ");
        for (int place = 0; place < 34 * 66; place++) {
            out.append(bit(x.addBody(place % 34, place * 7 % 66)));
        }
        out.append(" compute ").append(x.compute()).append(' ').append(queries(x)).append(" new rules");
        for (int rule = 0; rule < 34; rule++) {
            out.append(' ').append(x.newRule(rule % 3, rule % 2));
        }
        out.append(" compute ").append(x.compute()).append(' ').append(queries(x)).append(" new facts ");
        for (int lit = -1; lit < 66; lit++) {
            out.append(bit(x.addFact(lit)));
        }
        out.append(" compute ").append(x.compute()).append(' ').append(queries(x)).append(" reset ");
        x.reset();
        return out.append(queries(x)).toString();
    }

    private static char bit(boolean answer) {
        return answer ? '1' : '0';
    }
}
