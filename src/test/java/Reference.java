import java.util.ArrayList;
import java.util.HashSet;
import java.util.List;
import java.util.Set;

/** The document again, word for word and without a thought for speed, for comparison. */
final class Reference {
    private record Rule(int kind, int head, List<Integer> body) {
    }

    private record Pair(int stronger, int weaker) {
    }

    private final int literals;
    private final int limit;
    private final Set<Integer> facts = new HashSet<>();
    private final List<Rule> rules = new ArrayList<>();
    private final Set<Pair> pairs = new HashSet<>();
    private final List<Set<Integer>> tags = new ArrayList<>();
    private boolean computed = false;

    Reference(int atoms, int maxRules) {
        literals = 2 * Math.min(32, Math.max(1, atoms));
        limit = Math.min(32, Math.max(1, maxRules));
        for (int tag = 0; tag < 4; tag++) {
            tags.add(new HashSet<>());
        }
    }

    /** A copy of the theory that an object holds. */
    static Reference of(DefeasibleLogic x, int atoms, int maxRules) {
        Reference copy = new Reference(atoms, maxRules);
        for (int lit = 0; lit < copy.literals; lit++) {
            if (x.isFact(lit)) {
                copy.addFact(lit);
            }
        }
        for (int rule = 0; rule < x.ruleCount(); rule++) {
            copy.newRule(x.ruleKind(rule), x.ruleHead(rule));
            for (int index = 0; index < 4; index++) {
                copy.addBody(rule, x.ruleBody(rule, index));
            }
        }
        for (int stronger = 0; stronger < x.ruleCount(); stronger++) {
            for (int weaker = 0; weaker < x.ruleCount(); weaker++) {
                if (x.isSuperior(stronger, weaker)) {
                    copy.addSuperior(stronger, weaker);
                }
            }
        }
        return copy;
    }

    void reset() {
        facts.clear();
        rules.clear();
        pairs.clear();
        computed = false;
    }

    private boolean valid(int lit) {
        return 0 <= lit && lit < literals;
    }

    private boolean exists(int rule) {
        return 0 <= rule && rule < rules.size();
    }

    boolean addFact(int lit) {
        if (!valid(lit) || !facts.add(lit)) {
            return false;
        }
        computed = false;
        return true;
    }

    boolean isFact(int lit) {
        return facts.contains(lit);
    }

    int newRule(int kind, int head) {
        if (kind < 0 || kind > 2 || !valid(head) || rules.size() == limit) {
            return -1;
        }
        rules.add(new Rule(kind, head, new ArrayList<>()));
        computed = false;
        return rules.size() - 1;
    }

    boolean addBody(int rule, int lit) {
        if (!exists(rule) || !valid(lit)) {
            return false;
        }
        List<Integer> body = rules.get(rule).body();
        if (body.size() == 4 || body.contains(lit)) {
            return false;
        }
        body.add(lit);
        computed = false;
        return true;
    }

    boolean addSuperior(int stronger, int weaker) {
        if (!exists(stronger) || !exists(weaker) || stronger == weaker) {
            return false;
        }
        if (isSuperior(stronger, weaker) || chain(weaker, stronger)) {
            return false;
        }
        pairs.add(new Pair(stronger, weaker));
        computed = false;
        return true;
    }

    /** The recorded pairs have no cycle, so this recursion ends. */
    private boolean chain(int from, int to) {
        return isSuperior(from, to)
            || pairs.stream().anyMatch(pair -> pair.stronger() == from && chain(pair.weaker(), to));
    }

    boolean isSuperior(int stronger, int weaker) {
        return pairs.contains(new Pair(stronger, weaker));
    }

    int ruleCount() {
        return rules.size();
    }

    int ruleKind(int rule) {
        return exists(rule) ? rules.get(rule).kind() : -1;
    }

    int ruleHead(int rule) {
        return exists(rule) ? rules.get(rule).head() : -1;
    }

    int ruleBody(int rule, int index) {
        if (!exists(rule) || index < 0 || index >= rules.get(rule).body().size()) {
            return -1;
        }
        return rules.get(rule).body().get(index);
    }

    private List<Integer> strictFor(int lit) {
        return rulesFor(lit).stream().filter(r -> rules.get(r).kind() == 0).toList();
    }

    private List<Integer> supportsFor(int lit) {
        return rulesFor(lit).stream().filter(r -> rules.get(r).kind() != 2).toList();
    }

    private List<Integer> rulesFor(int lit) {
        List<Integer> found = new ArrayList<>();
        for (int rule = 0; rule < rules.size(); rule++) {
            if (rules.get(rule).head() == lit) {
                found.add(rule);
            }
        }
        return found;
    }

    private boolean everyIn(int rule, int tag) {
        return tags.get(tag).containsAll(rules.get(rule).body());
    }

    private boolean someIn(int rule, int tag) {
        return rules.get(rule).body().stream().anyMatch(tags.get(tag)::contains);
    }

    private boolean passes(int q, int tag) {
        switch (tag) {
            case 0:
                return facts.contains(q) || strictFor(q).stream().anyMatch(r -> everyIn(r, 0));
            case 1:
                return !facts.contains(q) && strictFor(q).stream().allMatch(r -> someIn(r, 1));
            case 2:
                return tags.get(0).contains(q)
                    || supportsFor(q).stream().anyMatch(r -> everyIn(r, 2))
                    && tags.get(1).contains(q ^ 1)
                    && rulesFor(q ^ 1).stream().allMatch(s -> someIn(s, 3)
                        || supportsFor(q).stream().anyMatch(t -> everyIn(t, 2) && isSuperior(t, s)));
            default:
                return tags.get(1).contains(q)
                    && (supportsFor(q).stream().allMatch(r -> someIn(r, 3))
                        || tags.get(0).contains(q ^ 1)
                        || rulesFor(q ^ 1).stream().anyMatch(s -> everyIn(s, 2)
                            && supportsFor(q).stream().allMatch(t -> someIn(t, 3) || !isSuperior(t, s))));
        }
    }

    int compute() {
        tags.forEach(Set::clear);
        boolean added = true;
        while (added) {
            List<Set<Integer>> passing = new ArrayList<>();
            for (int tag = 0; tag < 4; tag++) {
                passing.add(new HashSet<>());
                for (int q = 0; q < literals; q++) {
                    if (passes(q, tag)) {
                        passing.get(tag).add(q);
                    }
                }
            }
            added = false;
            for (int tag = 0; tag < 4; tag++) {
                added |= tags.get(tag).addAll(passing.get(tag));
            }
        }
        computed = true;
        return tags.get(2).size();
    }

    boolean hasTag(int lit, int tag) {
        return computed && 0 <= tag && tag < 4 && tags.get(tag).contains(lit);
    }

    int countTag(int tag) {
        if (!computed) {
            return -2;
        }
        return 0 <= tag && tag < 4 ? tags.get(tag).size() : -1;
    }

    int winner(int lit) {
        if (!computed) {
            return -2;
        }
        if (!tags.get(2).contains(lit)) {
            return -1;
        }
        if (facts.contains(lit)) {
            return -3;
        }
        if (tags.get(0).contains(lit)) {
            return strictFor(lit).stream().filter(r -> everyIn(r, 0)).findFirst().orElseThrow();
        }
        return supportsFor(lit).stream().filter(r -> everyIn(r, 2)).findFirst().orElseThrow();
    }
}
