/**
 * The conclusions of a small propositional defeasible theory.
 *
 * A set of literals is a long and a set of rules is an int, one bit for each
 * member: there are never more than 64 literals or 32 rules.
 */
public final class DefeasibleLogic {
    public static final int STRICT = 0;
    public static final int DEFEASIBLE = 1;
    public static final int DEFEATER = 2;

    public static final int PLUS_DEFINITE = 0;
    public static final int MINUS_DEFINITE = 1;
    public static final int PLUS_DEFEASIBLE = 2;
    public static final int MINUS_DEFEASIBLE = 3;

    public static final int NONE = -1;
    public static final int NOT_COMPUTED = -2;
    public static final int BY_FACT = -3;

    public static final int MAX_ATOMS = 32;
    public static final int MAX_RULES = 32;
    public static final int MAX_BODY = 4;

    private static final int MAX_LITERALS = 64;
    private static final int BODY_SLOTS = 128;

    // Every round but the last adds one of the 4 * 64 pairs of tag and literal.
    private static final int MAX_ROUNDS = 257;

    private final int literals;
    private final int ruleLimit;

    private long facts;
    private int rules;
    private final int[] kinds = new int[MAX_RULES];
    private final int[] heads = new int[MAX_RULES];
    private final int[] bodySizes = new int[MAX_RULES];
    private final int[] bodyList = new int[BODY_SLOTS];
    private final long[] bodySets = new long[MAX_RULES];
    private final int[] weakerSets = new int[MAX_RULES];

    private boolean computed;
    private long plusDefinite;
    private long minusDefinite;
    private long plusDefeasible;
    private long minusDefeasible;

    public DefeasibleLogic(int atoms, int maxRules) {
        literals = 2 * clamp(atoms, MAX_ATOMS);
        ruleLimit = clamp(maxRules, MAX_RULES);
    }

    public void reset() {
        // The rows of the rule arrays are cleared when newRule takes them again.
        facts = 0L;
        rules = 0;
        computed = false;
    }

    public boolean addFact(int lit) {
        if (!isLiteral(lit) || contains(facts, lit)) {
            return false;
        }
        facts |= 1L << lit;
        computed = false;
        return true;
    }

    public boolean isFact(int lit) {
        return isLiteral(lit) && contains(facts, lit);
    }

    public int newRule(int kind, int head) {
        if (!isKind(kind) || !isLiteral(head) || rules >= ruleLimit) {
            return NONE;
        }
        int rule = rules;
        kinds[rule] = kind;
        heads[rule] = head;
        bodySizes[rule] = 0;
        bodySets[rule] = 0L;
        weakerSets[rule] = 0;
        rules = rule + 1;
        computed = false;
        return rule;
    }

    public boolean addBody(int rule, int lit) {
        if (!isRule(rule) || !isLiteral(lit)) {
            return false;
        }
        int size = bodySizes[rule];
        if (size >= MAX_BODY || contains(bodySets[rule], lit)) {
            return false;
        }
        bodyList[rule * MAX_BODY + size] = lit;
        bodySets[rule] |= 1L << lit;
        bodySizes[rule] = size + 1;
        computed = false;
        return true;
    }

    public boolean addSuperior(int stronger, int weaker) {
        if (!isRule(stronger) || !isRule(weaker) || stronger == weaker) {
            return false;
        }
        if (isRecorded(stronger, weaker) || hasChain(weaker, stronger)) {
            return false;
        }
        weakerSets[stronger] |= 1 << weaker;
        computed = false;
        return true;
    }

    public boolean isSuperior(int stronger, int weaker) {
        return isRule(stronger) && isRule(weaker) && isRecorded(stronger, weaker);
    }

    public int ruleCount() {
        return rules;
    }

    public int ruleKind(int rule) {
        return isRule(rule) ? kinds[rule] : NONE;
    }

    public int ruleHead(int rule) {
        return isRule(rule) ? heads[rule] : NONE;
    }

    public int ruleBody(int rule, int index) {
        if (!isRule(rule) || index < 0 || index >= bodySizes[rule]) {
            return NONE;
        }
        return bodyList[rule * MAX_BODY + index];
    }

    public int compute() {
        plusDefinite = 0L;
        minusDefinite = 0L;
        plusDefeasible = 0L;
        minusDefeasible = 0L;
        boolean grew = true;
        for (int round = 0; grew && round < MAX_ROUNDS; round++) {
            grew = runRound();
        }
        computed = true;
        return sizeOf(plusDefeasible);
    }

    public boolean hasTag(int lit, int tag) {
        if (!computed || !isLiteral(lit) || !isTag(tag)) {
            return false;
        }
        long tagged = taggedBy(tag);
        return contains(tagged, lit);
    }

    public int countTag(int tag) {
        if (!computed) {
            return NOT_COMPUTED;
        }
        if (!isTag(tag)) {
            return NONE;
        }
        long tagged = taggedBy(tag);
        return sizeOf(tagged);
    }

    public int winner(int lit) {
        if (!computed) {
            return NOT_COMPUTED;
        }
        if (!isLiteral(lit) || !contains(plusDefeasible, lit)) {
            return NONE;
        }
        if (contains(facts, lit)) {
            return BY_FACT;
        }
        if (contains(plusDefinite, lit)) {
            return firstDefiniteProof(lit);
        }
        return firstSupport(lit);
    }

    private static int clamp(int value, int greatest) {
        if (value < 1) {
            return 1;
        }
        return value > greatest ? greatest : value;
    }

    private boolean isLiteral(int lit) {
        return lit >= 0 && lit < literals;
    }

    private boolean isRule(int rule) {
        return rule >= 0 && rule < rules;
    }

    private static boolean isKind(int kind) {
        return kind == STRICT || kind == DEFEASIBLE || kind == DEFEATER;
    }

    private static boolean isTag(int tag) {
        return tag >= PLUS_DEFINITE && tag <= MINUS_DEFEASIBLE;
    }

    private static boolean contains(long set, int lit) {
        return (set >>> lit & 1L) != 0L;
    }

    private static int sizeOf(long set) {
        int size = 0;
        for (int lit = 0; lit < MAX_LITERALS; lit++) {
            if (contains(set, lit)) {
                size++;
            }
        }
        return size;
    }

    private boolean isRecorded(int stronger, int weaker) {
        return (weakerSets[stronger] >>> weaker & 1) != 0;
    }

    private boolean hasChain(int from, int to) {
        int reached = 1 << from;
        // A chain without repeats has fewer steps than there are rules.
        for (int step = 1; step < rules; step++) {
            reached = withNextStep(reached);
        }
        return (reached >>> to & 1) != 0;
    }

    private int withNextStep(int reached) {
        int wider = reached;
        for (int rule = 0; rule < rules; rule++) {
            if ((reached >>> rule & 1) != 0) {
                wider |= weakerSets[rule];
            }
        }
        return wider;
    }

    private long taggedBy(int tag) {
        switch (tag) {
            case PLUS_DEFINITE:
                return plusDefinite;
            case MINUS_DEFINITE:
                return minusDefinite;
            case PLUS_DEFEASIBLE:
                return plusDefeasible;
            default:
                return minusDefeasible;
        }
    }

    /** Answers whether the round added anything. */
    private boolean runRound() {
        // Collected apart, so that every test sees the sets as the round began.
        long nextPlusDefinite = plusDefinite;
        long nextMinusDefinite = minusDefinite;
        long nextPlusDefeasible = plusDefeasible;
        long nextMinusDefeasible = minusDefeasible;
        for (int lit = 0; lit < literals; lit++) {
            long self = 1L << lit;
            if (passesPlusDefinite(lit)) {
                nextPlusDefinite |= self;
            }
            if (passesMinusDefinite(lit)) {
                nextMinusDefinite |= self;
            }
            if (passesPlusDefeasible(lit)) {
                nextPlusDefeasible |= self;
            }
            if (passesMinusDefeasible(lit)) {
                nextMinusDefeasible |= self;
            }
        }
        boolean grew = nextPlusDefinite != plusDefinite
            || nextMinusDefinite != minusDefinite
            || nextPlusDefeasible != plusDefeasible
            || nextMinusDefeasible != minusDefeasible;
        plusDefinite = nextPlusDefinite;
        minusDefinite = nextMinusDefinite;
        plusDefeasible = nextPlusDefeasible;
        minusDefeasible = nextMinusDefeasible;
        return grew;
    }

    private boolean passesPlusDefinite(int lit) {
        return contains(facts, lit) || firstDefiniteProof(lit) != NONE;
    }

    private boolean passesMinusDefinite(int lit) {
        if (contains(facts, lit)) {
            return false;
        }
        for (int rule = 0; rule < rules; rule++) {
            if (isStrictFor(rule, lit) && (bodySets[rule] & minusDefinite) == 0L) {
                return false;
            }
        }
        return true;
    }

    private boolean passesPlusDefeasible(int lit) {
        if (contains(plusDefinite, lit)) {
            return true;
        }
        return firstSupport(lit) != NONE
            && contains(minusDefinite, lit ^ 1)
            && everyAttackFails(lit);
    }

    private boolean passesMinusDefeasible(int lit) {
        if (!contains(minusDefinite, lit)) {
            return false;
        }
        return everySupportFails(lit)
            || contains(plusDefinite, lit ^ 1)
            || someAttackStands(lit);
    }

    private boolean isStrictFor(int rule, int lit) {
        return heads[rule] == lit && kinds[rule] == STRICT;
    }

    private boolean canSupport(int rule, int lit) {
        return heads[rule] == lit && kinds[rule] != DEFEATER;
    }

    private boolean isApplicable(int rule) {
        return (bodySets[rule] & ~plusDefeasible) == 0L;
    }

    private boolean isDiscarded(int rule) {
        return (bodySets[rule] & minusDefeasible) != 0L;
    }

    private int firstDefiniteProof(int lit) {
        for (int rule = 0; rule < rules; rule++) {
            if (isStrictFor(rule, lit) && (bodySets[rule] & ~plusDefinite) == 0L) {
                return rule;
            }
        }
        return NONE;
    }

    private int firstSupport(int lit) {
        for (int rule = 0; rule < rules; rule++) {
            if (canSupport(rule, lit) && isApplicable(rule)) {
                return rule;
            }
        }
        return NONE;
    }

    private boolean everySupportFails(int lit) {
        for (int rule = 0; rule < rules; rule++) {
            if (canSupport(rule, lit) && !isDiscarded(rule)) {
                return false;
            }
        }
        return true;
    }

    private boolean everyAttackFails(int lit) {
        for (int attack = 0; attack < rules; attack++) {
            if (heads[attack] == (lit ^ 1) && !isDiscarded(attack) && !isBeaten(attack, lit)) {
                return false;
            }
        }
        return true;
    }

    private boolean someAttackStands(int lit) {
        for (int attack = 0; attack < rules; attack++) {
            if (heads[attack] == (lit ^ 1) && isApplicable(attack) && !canBeBeaten(attack, lit)) {
                return true;
            }
        }
        return false;
    }

    private boolean isBeaten(int attack, int lit) {
        for (int rule = 0; rule < rules; rule++) {
            if (canSupport(rule, lit) && isApplicable(rule) && isRecorded(rule, attack)) {
                return true;
            }
        }
        return false;
    }

    private boolean canBeBeaten(int attack, int lit) {
        for (int rule = 0; rule < rules; rule++) {
            if (canSupport(rule, lit) && !isDiscarded(rule) && isRecorded(rule, attack)) {
                return true;
            }
        }
        return false;
    }
}
