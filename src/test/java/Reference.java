import java.util.ArrayList;
import java.util.List;

/**
 * The document's answers found in another way than the class does: by choosing a literal of each
 * clause, making values for the terms, and parting the cases only where f fails to be a function.
 */
final class Reference {
    private static final int BAD_ARG = -1000;
    private static final int FULL = -2000;
    private static final int NONE = -3000;
    private static final int ENDLESS = -4000;
    /** Bounds that follow from six steps of at most 21 stay above this. */
    private static final int BELOW_ALL = -500;

    /** An atom, or a bound on a difference: {t, u, k} says that t less u is at most k. */
    private List<int[]> atoms = new ArrayList<>();
    private List<List<Integer>> clauses = new ArrayList<>();
    private List<Integer> draft = new ArrayList<>();
    private final List<List<int[]>> keptAtoms = new ArrayList<>();
    private final List<List<List<Integer>>> keptClauses = new ArrayList<>();

    int atom(int t, int u, int k) {
        if (t < 0 || t > 6 || u < 0 || u > 6 || t == u || k < -20 || k > 20) return BAD_ARG;
        if (atoms.size() == 8) return FULL;
        atoms.add(new int[] {t, u, k});
        return atoms.size() - 1;
    }

    int literal(int l) {
        if (!there(l)) return BAD_ARG;
        if (draft.size() == 4) return FULL;
        draft.add(l);
        return draft.size();
    }

    void scrap() {
        draft = new ArrayList<>();
    }

    int clause() {
        if (clauses.size() == 16) return FULL;
        clauses.add(draft);
        draft = new ArrayList<>();
        return clauses.size() - 1;
    }

    int fact(int l) {
        if (!there(l)) return BAD_ARG;
        if (clauses.size() == 16) return FULL;
        clauses.add(List.of(l));
        return clauses.size() - 1;
    }

    int open() {
        if (keptAtoms.size() == 4) return FULL;
        keptAtoms.add(new ArrayList<>(atoms));
        keptClauses.add(new ArrayList<>(clauses));
        return keptAtoms.size();
    }

    int close() {
        int last = keptAtoms.size() - 1;
        if (last < 0) return NONE;
        atoms = keptAtoms.remove(last);
        clauses = keptClauses.remove(last);
        draft = new ArrayList<>();
        return last;
    }

    int atoms() {
        return atoms.size();
    }

    int clauses() {
        return clauses.size();
    }

    boolean possible() {
        return can(clauses, new ArrayList<>());
    }

    boolean implied(int l) {
        return there(l) && !can(clauses, List.of(says(l ^ 1)));
    }

    boolean equal(int t, int u) {
        return isTerm(t) && isTerm(u) && !canDiffer(t, u);
    }

    boolean apart(int t, int u) {
        return isTerm(t) && isTerm(u) && canDiffer(t, u);
    }

    int least(int t, int u) {
        if (!isTerm(t) || !isTerm(u) || t == u) return BAD_ARG;
        if (!possible()) return NONE;
        if (can(clauses, List.of(new int[] {t, u, BELOW_ALL}))) return ENDLESS;
        int cannot = BELOW_ALL;
        int can = -BELOW_ALL;
        while (can - cannot > 1) {
            int middle = (can + cannot) / 2;
            if (can(clauses, List.of(new int[] {t, u, middle}))) can = middle;
            else cannot = middle;
        }
        return can;
    }

    int pattern(int p) {
        for (int q = Math.max(p, 0); q < 1 << atoms.size(); q++) {
            if (isGood(q)) return q;
        }
        return NONE;
    }

    int patterns() {
        int found = 0;
        for (int q = 0; q < 1 << atoms.size(); q++) found += isGood(q) ? 1 : 0;
        return found;
    }

    boolean without(int k) {
        return k >= 0 && k < clauses.size() && can(others(k), new ArrayList<>());
    }

    int undecided() {
        int found = 0;
        for (int i = 0; i < atoms.size(); i++) {
            boolean held = can(clauses, List.of(says(2 * i)));
            boolean failed = can(clauses, List.of(says(2 * i + 1)));
            found += held && failed ? 1 : 0;
        }
        return found;
    }

    int spare() {
        int found = 0;
        for (int k = 0; k < clauses.size(); k++) {
            List<int[]> unmet = new ArrayList<>();
            for (int l : clauses.get(k)) unmet.add(says(l ^ 1));
            found += can(others(k), unmet) ? 0 : 1;
        }
        return found;
    }

    private static boolean isTerm(int t) {
        return t >= 0 && t <= 6;
    }

    private boolean there(int l) {
        return l >= 0 && l < 16 && l / 2 < atoms.size();
    }

    private int[] says(int l) {
        int[] a = atoms.get(l / 2);
        return l % 2 == 0 ? a : new int[] {a[1], a[0], -a[2] - 1};
    }

    private List<List<Integer>> others(int k) {
        List<List<Integer>> rest = new ArrayList<>(clauses);
        rest.remove(k);
        return rest;
    }

    private boolean isGood(int q) {
        List<int[]> bounds = new ArrayList<>();
        for (int i = 0; i < atoms.size(); i++) bounds.add(says((q >> i) % 2 == 1 ? 2 * i : 2 * i + 1));
        return can(clauses, bounds);
    }

    private boolean canDiffer(int t, int u) {
        return can(clauses, List.of(new int[] {t, u, -1})) || can(clauses, List.of(new int[] {u, t, -1}));
    }

    /** Whether some meaning meets the clauses and keeps the bounds. */
    private boolean can(List<List<Integer>> asked, List<int[]> bounds) {
        int[] value = meaning(bounds);
        if (value == null) return false;
        for (List<Integer> choice : asked) {
            if (!isMet(choice, value)) return canByOneOf(choice, asked, bounds);
        }
        return true;
    }

    private boolean canByOneOf(List<Integer> choice, List<List<Integer>> asked, List<int[]> bounds) {
        for (int l : choice) {
            List<int[]> more = new ArrayList<>(bounds);
            more.add(says(l));
            if (can(asked, more)) return true;
        }
        return false;
    }

    private boolean isMet(List<Integer> choice, int[] value) {
        for (int l : choice) {
            if (keeps(value, says(l))) return true;
        }
        return false;
    }

    private static boolean keeps(int[] value, int[] bound) {
        return value[bound[0]] - value[bound[1]] <= bound[2];
    }

    /** Values of the terms within the bounds, f being a function; null if there are none. */
    private static int[] meaning(List<int[]> bounds) {
        int[] value = valuesWithin(bounds);
        if (value == null) return null;
        for (int i = 0; i < 3; i++) {
            for (int j = i + 1; j < 3; j++) {
                if (value[i] == value[j] && value[i + 3] != value[j + 3]) return meaningByCases(i, j, bounds);
            }
        }
        return value;
    }

    private static int[] meaningByCases(int i, int j, List<int[]> bounds) {
        int[][][] cases = {
            {{i, j, -1}},
            {{j, i, -1}},
            {{i, j, 0}, {j, i, 0}, {i + 3, j + 3, 0}, {j + 3, i + 3, 0}}
        };
        for (int[][] added : cases) {
            List<int[]> more = new ArrayList<>(bounds);
            more.addAll(List.of(added));
            int[] value = meaning(more);
            if (value != null) return value;
        }
        return null;
    }

    /** Lowers values until all bounds are kept; seven rounds are enough if they can be. */
    private static int[] valuesWithin(List<int[]> bounds) {
        int[] value = new int[7];
        for (int round = 0; round < 8; round++) {
            boolean kept = true;
            for (int[] b : bounds) {
                if (!keeps(value, b)) {
                    value[b[0]] = value[b[1]] + b[2];
                    kept = false;
                }
            }
            if (kept) return value;
        }
        return null;
    }
}
