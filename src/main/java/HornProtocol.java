/**
 * The messages of a small security protocol that an active attacker can derive.
 *
 * <p>Every instance of an arena term has a place, handle * 16 + code, and a ground id, the least
 * place that holds the same tree. Equal trees thus have equal ids, and whatever happens after
 * {@code make} compares numbers instead of trees.
 */
public final class HornProtocol {
    public static final int NAME = 0;
    public static final int VAR = 1;
    public static final int PAIR = 2;
    public static final int SENC = 3;
    public static final int AENC = 4;
    public static final int PK = 5;

    public static final int S_INIT = 0;
    public static final int S_PAIR = 1;
    public static final int S_SENC = 2;
    public static final int S_AENC = 3;
    public static final int S_PK = 4;
    public static final int S_FST = 5;
    public static final int S_SND = 6;
    public static final int S_SDEC = 7;
    public static final int S_ADEC = 8;
    public static final int S_RULE = 9;

    public static final int C_TERMS = 0;
    public static final int C_KNOW = 1;
    public static final int C_RULES = 2;
    public static final int C_STEPS = 3;
    public static final int C_PHASE = 4;
    public static final int C_UNIVERSE = 5;
    public static final int C_KNOWN = 6;

    public static final int BUILD = 0;
    public static final int READY = 1;

    public static final int NONE = -1;
    public static final int UNDERIVABLE = -1;
    public static final int ERR_PHASE = -2;
    public static final int ERR_KIND = -3;
    public static final int ERR_RANGE = -4;
    public static final int ERR_HANDLE = -5;
    public static final int ERR_FULL = -6;
    public static final int ERR_NOT_GROUND = -7;
    public static final int ERR_UNBOUND = -8;
    public static final int ERR_STEP = -9;
    public static final int ERR_INVALID = -10;

    private static final int LEAST_NAMES = 2;
    private static final int MOST_NAMES = 4;
    private static final int LEAST_TERMS = 8;
    private static final int MOST_TERMS = 16;
    private static final int LEAST_STEPS = 8;
    private static final int MOST_STEPS = 32;
    private static final int MOST_ENTRIES = 8;
    private static final int MOST_RULES = 8;
    private static final int CODES = 16;
    private static final int PLACES = 256;

    /** Stands for a field, a part or a ground term that is not there. */
    private static final int ABSENT = -1;

    private final int nameCount;
    private final int termCapacity;
    private final int stepCapacity;

    private int phase = BUILD;
    private int termCount = 0;
    private int knowCount = 0;
    private int ruleCount = 0;
    private int stepCount = 0;
    private int knownCount = 0;

    private final int[] termKind = new int[MOST_TERMS];
    private final int[] termLeft = new int[MOST_TERMS];
    private final int[] termRight = new int[MOST_TERMS];
    /** The variables in a term's tree: bit 0 for x, bit 1 for y. */
    private final int[] termVars = new int[MOST_TERMS];

    /** The ground id at each place; ABSENT where no instance lies. */
    private final int[] idAt = new int[PLACES];
    /** The rank of each ground id; UNDERIVABLE where none is known. */
    private final int[] rankOf = new int[PLACES];

    private final int[] entryTerm = new int[MOST_ENTRIES];
    private final int[] firstPremise = new int[MOST_RULES];
    private final int[] secondPremise = new int[MOST_RULES];
    private final int[] conclusion = new int[MOST_RULES];
    private final int[] fact = new int[MOST_STEPS];

    public HornProtocol(int names, int terms, int steps) {
        nameCount = clamped(names, LEAST_NAMES, MOST_NAMES);
        termCapacity = clamped(terms, LEAST_TERMS, MOST_TERMS);
        stepCapacity = clamped(steps, LEAST_STEPS, MOST_STEPS);
        for (int place = 0; place < PLACES; place++) {
            idAt[place] = ABSENT;
            rankOf[place] = UNDERIVABLE;
        }
        for (int i = 0; i < nameCount; i++) {
            addTerm(NAME, i, ABSENT);
        }
    }

    public int make(int kind, int a, int b) {
        if (phase == READY) {
            return ERR_PHASE;
        }
        int refusal = makeRefusal(kind, a, b);
        if (refusal < 0) {
            return refusal;
        }
        boolean binary = kind == PAIR || kind == SENC || kind == AENC;
        int right = binary ? b : ABSENT;
        int same = findTerm(kind, a, right);
        if (same != ABSENT) {
            return same;
        }
        if (termCount >= termCapacity) {
            return ERR_FULL;
        }
        return addTerm(kind, a, right);
    }

    public int know(int h) {
        if (phase == READY) {
            return ERR_PHASE;
        }
        if (!isHandle(h)) {
            return ERR_HANDLE;
        }
        if (termVars[h] != 0) {
            return ERR_NOT_GROUND;
        }
        if (knowCount >= MOST_ENTRIES) {
            return ERR_FULL;
        }
        int i = knowCount;
        entryTerm[i] = h;
        knowCount = i + 1;
        return i;
    }

    public int rule(int p1, int p2, int c) {
        if (phase == READY) {
            return ERR_PHASE;
        }
        if (p1 != NONE && !isHandle(p1)) {
            return ERR_HANDLE;
        }
        if (p2 != NONE && !isHandle(p2)) {
            return ERR_HANDLE;
        }
        if (!isHandle(c)) {
            return ERR_HANDLE;
        }
        int bound = (p1 == NONE ? 0 : termVars[p1]) | (p2 == NONE ? 0 : termVars[p2]);
        if ((termVars[c] & ~bound) != 0) {
            return ERR_UNBOUND;
        }
        if (ruleCount >= MOST_RULES) {
            return ERR_FULL;
        }
        int r = ruleCount;
        firstPremise[r] = p1 == NONE ? p2 : p1;
        secondPremise[r] = p1 == NONE ? NONE : p2;
        conclusion[r] = c;
        ruleCount = r + 1;
        return r;
    }

    public int saturate() {
        if (phase == READY) {
            return ERR_PHASE;
        }
        phase = READY;
        for (int i = 0; i < knowCount; i++) {
            learn(idAt[entryTerm[i] * CODES], 0);
        }
        // Each round but the last learns at least one of at most PLACES terms.
        boolean grown = true;
        for (int round = 0; grown && round <= PLACES; round++) {
            int before = knownCount;
            compose(round);
            takeApart(round);
            applyRules(round);
            grown = knownCount > before;
        }
        return knownCount;
    }

    public int rank(int h, int vx, int vy) {
        if (phase == BUILD) {
            return ERR_PHASE;
        }
        int id = groundId(h, vx, vy);
        return id < 0 ? id : rankOf[id];
    }

    public int groundId(int h, int vx, int vy) {
        if (!isHandle(h)) {
            return ERR_HANDLE;
        }
        if (!isName(vx) || !isName(vy)) {
            return ERR_RANGE;
        }
        return idAt[h * CODES + vx + 4 * vy];
    }

    public int step(int kind, int a, int b, int c) {
        if (phase == BUILD) {
            return ERR_PHASE;
        }
        if (stepCount >= stepCapacity) {
            return ERR_FULL;
        }
        if (kind < S_INIT || kind > S_RULE) {
            return ERR_KIND;
        }
        int refusal = referenceRefusal(kind, a, b, c);
        if (refusal < 0) {
            return refusal;
        }
        int id = newFact(kind, a, b, c);
        if (id == ABSENT) {
            return ERR_INVALID;
        }
        int j = stepCount;
        fact[j] = id;
        stepCount = j + 1;
        return j;
    }

    public int stepFact(int j) {
        return isStep(j) ? fact[j] : ERR_STEP;
    }

    public int kindOf(int h) {
        return isHandle(h) ? termKind[h] : ERR_HANDLE;
    }

    public int child(int h, int which) {
        if (!isHandle(h)) {
            return ERR_HANDLE;
        }
        if (which != 0 && which != 1) {
            return ERR_RANGE;
        }
        return which == 0 ? termLeft[h] : termRight[h];
    }

    public int entry(int i) {
        return i >= 0 && i < knowCount ? entryTerm[i] : ERR_RANGE;
    }

    public int ruleTerm(int r, int which) {
        if (r < 0 || r >= ruleCount) {
            return ERR_RANGE;
        }
        switch (which) {
            case 0:
                return firstPremise[r];
            case 1:
                return secondPremise[r];
            case 2:
                return conclusion[r];
            default:
                return ERR_RANGE;
        }
    }

    public int count(int what) {
        switch (what) {
            case C_TERMS:
                return termCount;
            case C_KNOW:
                return knowCount;
            case C_RULES:
                return ruleCount;
            case C_STEPS:
                return stepCount;
            case C_PHASE:
                return phase;
            case C_UNIVERSE:
                return universeSize();
            case C_KNOWN:
                return phase == BUILD ? ERR_PHASE : knownCount;
            default:
                return ERR_RANGE;
        }
    }

    private static int clamped(int value, int least, int most) {
        if (value < least) {
            return least;
        }
        return value > most ? most : value;
    }

    private boolean isHandle(int h) {
        return h >= 0 && h < termCount;
    }

    private boolean isName(int v) {
        return v >= 0 && v < nameCount;
    }

    private boolean isStep(int j) {
        return j >= 0 && j < stepCount;
    }

    /** The error for a term that make refuses whatever the arena holds, or 0. */
    private int makeRefusal(int kind, int a, int b) {
        switch (kind) {
            case VAR:
                return a == 0 || a == 1 ? 0 : ERR_RANGE;
            case PK:
                return isHandle(a) ? 0 : ERR_HANDLE;
            case PAIR:
            case SENC:
            case AENC:
                return isHandle(a) && isHandle(b) ? 0 : ERR_HANDLE;
            default:
                return ERR_KIND;
        }
    }

    private int findTerm(int kind, int left, int right) {
        for (int h = 0; h < termCount; h++) {
            if (termKind[h] == kind && termLeft[h] == left && termRight[h] == right) {
                return h;
            }
        }
        return ABSENT;
    }

    private int addTerm(int kind, int left, int right) {
        int h = termCount;
        termKind[h] = kind;
        termLeft[h] = left;
        termRight[h] = right;
        termVars[h] = varsOf(kind, left, right);
        termCount = h + 1;
        // Codes go upwards, so that of equal instances the least place is met first.
        for (int vy = 0; vy < nameCount; vy++) {
            for (int vx = 0; vx < nameCount; vx++) {
                int place = h * CODES + vx + 4 * vy;
                idAt[place] = instanceId(h, vx, vy);
            }
        }
        return h;
    }

    private int varsOf(int kind, int left, int right) {
        switch (kind) {
            case NAME:
                return 0;
            case VAR:
                return 1 << left;
            case PK:
                return termVars[left];
            default:
                return termVars[left] | termVars[right];
        }
    }

    /** The ground id of an instance whose parts have theirs already. */
    private int instanceId(int h, int vx, int vy) {
        int kind = termKind[h];
        if (kind == NAME) {
            return h * CODES;
        }
        if (kind == VAR) {
            return (termLeft[h] == 0 ? vx : vy) * CODES;
        }
        int code = vx + 4 * vy;
        int left = idAt[termLeft[h] * CODES + code];
        int right = kind == PK ? ABSENT : idAt[termRight[h] * CODES + code];
        int same = findGround(kind, left, right);
        return same == ABSENT ? h * CODES + code : same;
    }

    /** The id of the ground term with this kind and these parts, or ABSENT if U lacks it. */
    private int findGround(int kind, int left, int right) {
        for (int id = 0; id < PLACES; id++) {
            if (isGroundId(id) && termKind[id / CODES] == kind
                    && leftPart(id) == left && rightPart(id) == right) {
                return id;
            }
        }
        return ABSENT;
    }

    private boolean isGroundId(int place) {
        return idAt[place] == place;
    }

    /** The id of the left part of a ground term that is no name. */
    private int leftPart(int id) {
        return idAt[termLeft[id / CODES] * CODES + id % CODES];
    }

    /** The id of the right part of a ground term, ABSENT if its kind has none. */
    private int rightPart(int id) {
        int right = termRight[id / CODES];
        return right == ABSENT ? ABSENT : idAt[right * CODES + id % CODES];
    }

    private int universeSize() {
        int size = 0;
        for (int place = 0; place < PLACES; place++) {
            if (isGroundId(place)) {
                size++;
            }
        }
        return size;
    }

    private void learn(int id, int round) {
        if (rankOf[id] == UNDERIVABLE) {
            rankOf[id] = round;
            knownCount++;
        }
    }

    /** Whether a ground term is in K(round), though later ones may be learnt already. */
    private boolean isHeld(int id, int round) {
        return rankOf[id] != UNDERIVABLE && rankOf[id] <= round;
    }

    private void compose(int round) {
        for (int id = 0; id < PLACES; id++) {
            if (isGroundId(id) && termKind[id / CODES] != NAME) {
                int left = leftPart(id);
                int right = rightPart(id);
                if (isHeld(left, round) && (right == ABSENT || isHeld(right, round))) {
                    learn(id, round + 1);
                }
            }
        }
    }

    private void takeApart(int round) {
        for (int id = 0; id < PLACES; id++) {
            if (isGroundId(id) && isHeld(id, round)) {
                takeApartOne(id, round);
            }
        }
    }

    private void takeApartOne(int id, int round) {
        int kind = termKind[id / CODES];
        if (kind == PAIR) {
            int left = leftPart(id);
            int right = rightPart(id);
            learn(left, round + 1);
            learn(right, round + 1);
        }
        if (kind == SENC || kind == AENC) {
            int plain = leftPart(id);
            int key = openingKey(id);
            if (key != ABSENT && isHeld(key, round)) {
                learn(plain, round + 1);
            }
        }
    }

    /** The id of what opens an encryption, ABSENT if nothing does. */
    private int openingKey(int id) {
        int key = rightPart(id);
        if (termKind[id / CODES] == SENC) {
            return key;
        }
        return termKind[key / CODES] == PK ? leftPart(key) : ABSENT;
    }

    private void applyRules(int round) {
        for (int r = 0; r < ruleCount; r++) {
            for (int vy = 0; vy < nameCount; vy++) {
                for (int vx = 0; vx < nameCount; vx++) {
                    int code = vx + 4 * vy;
                    if (isSupplied(firstPremise[r], code, round)
                            && isSupplied(secondPremise[r], code, round)) {
                        learn(idAt[conclusion[r] * CODES + code], round + 1);
                    }
                }
            }
        }
    }

    private boolean isSupplied(int premise, int code, int round) {
        return premise == NONE || isHeld(idAt[premise * CODES + code], round);
    }

    /** The error for a step whose arguments name no entry, rule or step, or 0. */
    private int referenceRefusal(int kind, int a, int b, int c) {
        switch (kind) {
            case S_INIT:
                return a >= 0 && a < knowCount ? 0 : ERR_RANGE;
            case S_PK:
            case S_FST:
            case S_SND:
                return isStep(a) ? 0 : ERR_STEP;
            case S_RULE:
                return ruleRefusal(a, b, c);
            default:
                return isStep(a) && isStep(b) ? 0 : ERR_STEP;
        }
    }

    private int ruleRefusal(int r, int b, int c) {
        if (r < 0 || r >= ruleCount) {
            return ERR_RANGE;
        }
        if (firstPremise[r] != NONE && !isStep(b)) {
            return ERR_STEP;
        }
        return secondPremise[r] == NONE || isStep(c) ? 0 : ERR_STEP;
    }

    /** The id of the fact of a step whose references are good, ABSENT if it is not justified. */
    private int newFact(int kind, int a, int b, int c) {
        switch (kind) {
            case S_INIT:
                return idAt[entryTerm[a] * CODES];
            case S_PAIR:
                return findGround(PAIR, fact[a], fact[b]);
            case S_SENC:
                return findGround(SENC, fact[a], fact[b]);
            case S_AENC:
                return findGround(AENC, fact[a], fact[b]);
            case S_PK:
                return findGround(PK, fact[a], ABSENT);
            case S_FST:
                return isOfKind(fact[a], PAIR) ? leftPart(fact[a]) : ABSENT;
            case S_SND:
                return isOfKind(fact[a], PAIR) ? rightPart(fact[a]) : ABSENT;
            case S_SDEC:
                return isOfKind(fact[a], SENC) ? opened(fact[a], fact[b]) : ABSENT;
            case S_ADEC:
                return isOfKind(fact[a], AENC) ? opened(fact[a], fact[b]) : ABSENT;
            case S_RULE:
                return ruleFact(a, b, c);
            default:
                return ABSENT;
        }
    }

    private boolean isOfKind(int id, int kind) {
        return termKind[id / CODES] == kind;
    }

    /** The plaintext of an encryption if the key given opens it, else ABSENT. */
    private int opened(int id, int key) {
        return openingKey(id) == key ? leftPart(id) : ABSENT;
    }

    private int ruleFact(int r, int b, int c) {
        for (int vy = 0; vy < nameCount; vy++) {
            for (int vx = 0; vx < nameCount; vx++) {
                int code = vx + 4 * vy;
                if (isMatched(firstPremise[r], code, b) && isMatched(secondPremise[r], code, c)) {
                    return idAt[conclusion[r] * CODES + code];
                }
            }
        }
        return ABSENT;
    }

    private boolean isMatched(int premise, int code, int j) {
        return premise == NONE || idAt[premise * CODES + code] == fact[j];
    }
}
