/**
 * Conditions on three whole numbers and a function of them, joined by or and and.
 *
 * Whether a meaning is good depends on its pattern alone, and there are at most 256 patterns: so
 * the questions are answered by going through the patterns that some meaning has.
 */
public final class TheorySolver {
    public static final int BAD_ARG = -1000;
    public static final int FULL = -2000;
    public static final int NONE = -3000;
    public static final int ENDLESS = -4000;

    private static final int TERMS = 7;
    private static final int TERM_PAIRS = 49;
    private static final int NAMES = 3;
    private static final int GREATEST_OFFSET = 20;
    private static final int ATOM_LIMIT = 8;
    private static final int CLAUSE_LIMIT = 16;
    private static final int LITERAL_LIMIT = 4;
    private static final int LEVEL_LIMIT = 4;
    private static final int REAL_SIZE = 512;
    private static final int NO_CLAUSE = -1;

    /** Each of the pairs a b, a c, b c is in one of three orders: less, same, greater. */
    private static final int ORDERS = 27;
    private static final int LESS = 0;
    private static final int SAME = 1;

    /** Stands for "no bound"; true bounds stay within some 50000, even while a contradiction is found. */
    private static final int UNBOUNDED = 1000000000;

    private final int[] atomLeft = new int[ATOM_LIMIT];
    private final int[] atomRight = new int[ATOM_LIMIT];
    private final int[] atomOffset = new int[ATOM_LIMIT];
    private int atomCount;

    /** A clause is kept as two sets of atoms: those said to hold and those said not to hold. */
    private final int[] clauseHolding = new int[CLAUSE_LIMIT];
    private final int[] clauseFailing = new int[CLAUSE_LIMIT];
    private int clauseCount;

    private int draftHolding;
    private int draftFailing;
    private int draftCount;

    private final int[] levelAtoms = new int[LEVEL_LIMIT];
    private final int[] levelClauses = new int[LEVEL_LIMIT];
    private int levelCount;

    /**
     * Entry 2^n + p: whether some meaning has pattern p over the first n atoms. Each n has its own
     * entries, so that closing a level finds those of the atoms that stay as they were.
     */
    private final boolean[] real = new boolean[REAL_SIZE];

    /** Entry TERMS * t + u: the greatest value of t less u that the conditions at hand allow. */
    private final int[] bound = new int[TERM_PAIRS];

    public TheorySolver() {
        // The one pattern over no atoms is the pattern of every meaning.
        real[1] = true;
    }

    public int atom(int t, int u, int k) {
        if (!isTerm(t) || !isTerm(u) || t == u || k < -GREATEST_OFFSET || k > GREATEST_OFFSET) {
            return BAD_ARG;
        }
        if (atomCount >= ATOM_LIMIT) {
            return FULL;
        }
        int added = atomCount;
        atomLeft[added] = t;
        atomRight[added] = u;
        atomOffset[added] = k;
        atomCount = added + 1;
        findRealPatterns(added);
        return added;
    }

    public int literal(int l) {
        if (!isLiteral(l)) {
            return BAD_ARG;
        }
        if (draftCount >= LITERAL_LIMIT) {
            return FULL;
        }
        draftHolding |= heldAtom(l);
        draftFailing |= failedAtom(l);
        draftCount++;
        return draftCount;
    }

    public void scrap() {
        emptyDraft();
    }

    public int clause() {
        if (clauseCount >= CLAUSE_LIMIT) {
            return FULL;
        }
        int added = addClause(draftHolding, draftFailing);
        emptyDraft();
        return added;
    }

    public int fact(int l) {
        if (!isLiteral(l)) {
            return BAD_ARG;
        }
        if (clauseCount >= CLAUSE_LIMIT) {
            return FULL;
        }
        int holding = heldAtom(l);
        int failing = failedAtom(l);
        return addClause(holding, failing);
    }

    public int open() {
        if (levelCount >= LEVEL_LIMIT) {
            return FULL;
        }
        levelAtoms[levelCount] = atomCount;
        levelClauses[levelCount] = clauseCount;
        levelCount++;
        return levelCount;
    }

    public int close() {
        if (levelCount <= 0) {
            return NONE;
        }
        levelCount--;
        atomCount = levelAtoms[levelCount];
        clauseCount = levelClauses[levelCount];
        emptyDraft();
        return levelCount;
    }

    public int atoms() {
        return atomCount;
    }

    public int clauses() {
        return clauseCount;
    }

    public boolean possible() {
        return someRealMeetsAllBut(NO_CLAUSE);
    }

    public boolean implied(int l) {
        if (!isLiteral(l)) {
            return false;
        }
        int holding = heldAtom(l);
        int failing = failedAtom(l);
        int count = patternCount();
        for (int p = 0; p < count; p++) {
            if (isGood(p) && !isMet(holding, failing, p)) {
                return false;
            }
        }
        return true;
    }

    public boolean equal(int t, int u) {
        return isTerm(t) && isTerm(u) && !canDiffer(t, u);
    }

    public boolean apart(int t, int u) {
        return isTerm(t) && isTerm(u) && canDiffer(t, u);
    }

    public int least(int t, int u) {
        if (!isTerm(t) || !isTerm(u) || t == u) {
            return BAD_ARG;
        }
        // The least value of t less u is the greatest one of u less t with its sign turned.
        int greatest = -UNBOUNDED;
        int count = patternCount();
        for (int p = 0; p < count; p++) {
            if (isGood(p)) {
                int here = greatestDifference(u, t, p);
                greatest = here > greatest ? here : greatest;
            }
        }
        if (greatest == -UNBOUNDED) {
            return NONE;
        }
        return greatest == UNBOUNDED ? ENDLESS : -greatest;
    }

    public int pattern(int p) {
        int count = patternCount();
        for (int q = p > 0 ? p : 0; q < count; q++) {
            if (isGood(q)) {
                return q;
            }
        }
        return NONE;
    }

    public int patterns() {
        int found = 0;
        int count = patternCount();
        for (int p = 0; p < count; p++) {
            if (isGood(p)) {
                found++;
            }
        }
        return found;
    }

    public boolean without(int k) {
        return k >= 0 && k < clauseCount && someRealMeetsAllBut(k);
    }

    public int undecided() {
        int heldSomewhere = 0;
        int failedSomewhere = 0;
        int count = patternCount();
        for (int p = 0; p < count; p++) {
            if (isGood(p)) {
                heldSomewhere |= p;
                failedSomewhere |= ~p;
            }
        }
        int both = heldSomewhere & failedSomewhere;
        int found = 0;
        for (int i = 0; i < atomCount; i++) {
            found += (both >> i) & 1;
        }
        return found;
    }

    public int spare() {
        int found = 0;
        for (int k = 0; k < clauseCount; k++) {
            if (!shutsOutAlone(k)) {
                found++;
            }
        }
        return found;
    }

    private static boolean isTerm(int t) {
        return t >= 0 && t < TERMS;
    }

    private boolean isLiteral(int l) {
        return l >= 0 && l < 2 * atomCount;
    }

    /** The set of the atom that literal l says to hold; the empty set if it says that one does not. */
    private static int heldAtom(int l) {
        return (l & 1) == 0 ? 1 << (l >> 1) : 0;
    }

    private static int failedAtom(int l) {
        return (l & 1) == 1 ? 1 << (l >> 1) : 0;
    }

    private void emptyDraft() {
        draftHolding = 0;
        draftFailing = 0;
        draftCount = 0;
    }

    private int addClause(int holding, int failing) {
        int added = clauseCount;
        clauseHolding[added] = holding;
        clauseFailing[added] = failing;
        clauseCount = added + 1;
        return added;
    }

    private int patternCount() {
        return 1 << atomCount;
    }

    private static boolean isMet(int holding, int failing, int p) {
        return (holding & p) != 0 || (failing & ~p) != 0;
    }

    private boolean meetsAllBut(int skipped, int p) {
        for (int k = 0; k < clauseCount; k++) {
            if (k != skipped && !isMet(clauseHolding[k], clauseFailing[k], p)) {
                return false;
            }
        }
        return true;
    }

    private boolean isReal(int p) {
        return real[(1 << atomCount) + p];
    }

    private boolean isGood(int p) {
        return isReal(p) && meetsAllBut(NO_CLAUSE, p);
    }

    private boolean someRealMeetsAllBut(int skipped) {
        int count = patternCount();
        for (int p = 0; p < count; p++) {
            if (isReal(p) && meetsAllBut(skipped, p)) {
                return true;
            }
        }
        return false;
    }

    /** Whether some meaning is kept from being good by clause k and by no other clause. */
    private boolean shutsOutAlone(int k) {
        int count = patternCount();
        for (int p = 0; p < count; p++) {
            if (isReal(p) && !isMet(clauseHolding[k], clauseFailing[k], p) && meetsAllBut(k, p)) {
                return true;
            }
        }
        return false;
    }

    private boolean canDiffer(int t, int u) {
        int count = patternCount();
        for (int p = 0; p < count; p++) {
            if (isGood(p) && (greatestDifference(t, u, p) > 0 || greatestDifference(u, t, p) > 0)) {
                return true;
            }
        }
        return false;
    }

    /** Of the patterns over all atoms, only those can be real whose part before the added atom is. */
    private void findRealPatterns(int added) {
        int half = 1 << added;
        for (int p = 0; p < half; p++) {
            boolean before = real[half + p];
            real[2 * half + p] = before && hasMeaning(p);
            real[3 * half + p] = before && hasMeaning(p + half);
        }
    }

    private boolean hasMeaning(int p) {
        for (int order = 0; order < ORDERS; order++) {
            if (settleBounds(p, order)) {
                return true;
            }
        }
        return false;
    }

    /** The greatest value of t less u in a meaning with pattern p; -UNBOUNDED if none has it. */
    private int greatestDifference(int t, int u, int p) {
        int greatest = -UNBOUNDED;
        for (int order = 0; order < ORDERS; order++) {
            if (settleBounds(p, order) && bound[TERMS * t + u] > greatest) {
                greatest = bound[TERMS * t + u];
            }
        }
        return greatest;
    }

    /**
     * Works out the bounds of the meanings with pattern p whose a, b and c stand in the order given;
     * false if there is none. Once the order is fixed, that f is a function asks for nothing but
     * bounds on differences, and whole numbers within such bounds exist unless a term would have to
     * be less than itself. Term 6 needs no care: adding one number to all values keeps all
     * differences, so it can be brought to 0.
     */
    private boolean settleBounds(int p, int order) {
        dropBounds();
        boundByAtoms(p);
        boundByOrder(0, 1, order % 3);
        boundByOrder(0, 2, order / 3 % 3);
        boundByOrder(1, 2, order / 9);
        return closeBounds();
    }

    private void dropBounds() {
        for (int at = 0; at < TERM_PAIRS; at++) {
            bound[at] = UNBOUNDED;
        }
        for (int t = 0; t < TERMS; t++) {
            bound[TERMS * t + t] = 0;
        }
    }

    private void boundByAtoms(int p) {
        for (int i = 0; i < atomCount; i++) {
            if (((p >> i) & 1) == 1) {
                tighten(atomLeft[i], atomRight[i], atomOffset[i]);
            } else {
                tighten(atomRight[i], atomLeft[i], -atomOffset[i] - 1);
            }
        }
    }

    private void boundByOrder(int x, int y, int relation) {
        if (relation == LESS) {
            tighten(x, y, -1);
        } else if (relation == SAME) {
            tighten(x, y, 0);
            tighten(y, x, 0);
            tighten(x + NAMES, y + NAMES, 0);
            tighten(y + NAMES, x + NAMES, 0);
        } else {
            tighten(y, x, -1);
        }
    }

    private void tighten(int t, int u, int most) {
        if (most < bound[TERMS * t + u]) {
            bound[TERMS * t + u] = most;
        }
    }

    /** Adds what follows from the bounds by way of other terms; false if they contradict each other. */
    private boolean closeBounds() {
        for (int via = 0; via < TERMS; via++) {
            for (int t = 0; t < TERMS; t++) {
                int first = bound[TERMS * t + via];
                for (int u = 0; u < TERMS && first < UNBOUNDED; u++) {
                    int second = bound[TERMS * via + u];
                    if (second < UNBOUNDED && first + second < bound[TERMS * t + u]) {
                        bound[TERMS * t + u] = first + second;
                    }
                }
            }
        }
        for (int t = 0; t < TERMS; t++) {
            if (bound[TERMS * t + t] < 0) {
                return false;
            }
        }
        return true;
    }
}
