import java.util.ArrayList;
import java.util.List;

/**
 * With -1 and 0 alone in the atoms, only the order of the seven values counts: so every meaning is
 * looked at here, by its order, and the questions are answered by the words of the document.
 */
public final class AllOrdersTest {
    private static final int PROGRAMS = 150;
    private static final int NONE = -3000;
    private static final int ENDLESS = -4000;

    private static final Check CHECK = new Check();
    /** The rank of each term, from 0 on without gaps. */
    private static final List<int[]> MEANINGS = new ArrayList<>();

    private static TheorySolver x;
    private static int[][] atoms;
    private static int[][] clauses;
    /** For each meaning its pattern and the set of the clauses that it does not meet. */
    private static int[] patterns;
    private static int[] unmet;

    public static void main(String[] args) {
        for (int n = 0; n < 7 * 7 * 7 * 7 * 7 * 7 * 7; n++) {
            addMeaning(n);
        }
        System.out.println(MEANINGS.size() + " orders in which f is a function");
        for (int program = 0; program < PROGRAMS; program++) {
            makeProgram(new Dice(1000 + program));
            lookAtMeanings();
            // Two objects, as one is used for at most 512 calls.
            x = runProgram();
            askAboutMeanings();
            askAboutPatterns();
            x = runProgram();
            askAboutTerms();
        }
        CHECK.end();
    }

    private static void addMeaning(int n) {
        int[] rank = new int[7];
        int used = 0;
        int rest = n;
        for (int t = 0; t < 7; t++, rest /= 7) {
            rank[t] = rest % 7;
            used |= 1 << rank[t];
        }
        boolean isFunction = true;
        for (int i = 0; i < 3; i++) {
            for (int j = 0; j < i; j++) {
                isFunction &= rank[i] != rank[j] || rank[i + 3] == rank[j + 3];
            }
        }
        if (isFunction && (used & (used + 1)) == 0) {
            MEANINGS.add(rank);
        }
    }

    private static void makeProgram(Dice dice) {
        atoms = new int[1 + dice.roll(8)][];
        for (int i = 0; i < atoms.length; i++) {
            int t = dice.roll(7);
            atoms[i] = new int[] {t, (t + 1 + dice.roll(6)) % 7, -dice.roll(2)};
        }
        clauses = new int[dice.roll(dice.oneIn(3) ? 17 : 8)][];
        for (int k = 0; k < clauses.length; k++) {
            clauses[k] = new int[1 + dice.roll(4)];
            for (int j = 0; j < clauses[k].length; j++) {
                clauses[k][j] = dice.roll(2 * atoms.length);
            }
        }
    }

    private static TheorySolver runProgram() {
        TheorySolver made = new TheorySolver();
        for (int[] atom : atoms) {
            made.atom(atom[0], atom[1], atom[2]);
        }
        for (int[] clause : clauses) {
            for (int l : clause) {
                made.literal(l);
            }
            made.clause();
        }
        return made;
    }

    private static void lookAtMeanings() {
        patterns = new int[MEANINGS.size()];
        unmet = new int[MEANINGS.size()];
        for (int m = 0; m < patterns.length; m++) {
            int[] rank = MEANINGS.get(m);
            for (int i = 0; i < atoms.length; i++) {
                patterns[m] |= rank[atoms[i][0]] - rank[atoms[i][1]] <= atoms[i][2] ? 1 << i : 0;
            }
            for (int k = 0; k < clauses.length; k++) {
                boolean met = false;
                for (int l : clauses[k]) {
                    met |= (patterns[m] >> (l / 2)) % 2 == 1 - l % 2;
                }
                unmet[m] |= met ? 0 : 1 << k;
            }
        }
    }

    private static void askAboutMeanings() {
        boolean possible = false;
        boolean[] without = new boolean[clauses.length];
        boolean[] needed = new boolean[clauses.length];
        for (int missed : unmet) {
            possible |= missed == 0;
            for (int k = 0; k < clauses.length; k++) {
                without[k] |= (missed & ~(1 << k)) == 0;
                needed[k] |= missed == 1 << k;
            }
        }
        CHECK.due("possible", x.possible(), possible);
        int spare = 0;
        for (int k = 0; k < clauses.length; k++) {
            CHECK.due("without " + k, x.without(k), without[k]);
            spare += needed[k] ? 0 : 1;
        }
        CHECK.due("spare", x.spare(), spare);
    }

    private static void askAboutPatterns() {
        boolean[] found = new boolean[257];
        boolean[] broken = new boolean[16];
        for (int m = 0; m < patterns.length; m++) {
            if (unmet[m] == 0) {
                found[patterns[m]] = true;
                for (int i = 0; i < atoms.length; i++) {
                    broken[2 * i + (patterns[m] >> i) % 2] = true;
                }
            }
        }
        int undecided = 0;
        for (int i = 0; i < atoms.length; i++) {
            CHECK.due("implied " + 2 * i, x.implied(2 * i), !broken[2 * i]);
            CHECK.due("implied " + (2 * i + 1), x.implied(2 * i + 1), !broken[2 * i + 1]);
            undecided += broken[2 * i] && broken[2 * i + 1] ? 1 : 0;
        }
        CHECK.due("undecided", x.undecided(), undecided);
        int count = 0;
        int next = NONE;
        for (int p = 256; p >= 0; p--) {
            next = found[p] ? p : next;
            count += found[p] ? 1 : 0;
            CHECK.due("pattern " + p, x.pattern(p), next);
        }
        CHECK.due("patterns", x.patterns(), count);
    }

    /** What is below can be taken down without end; else the ranks are as near as they can be. */
    private static void askAboutTerms() {
        for (int t = 0; t < 7; t++) {
            for (int u = 0; u < 7; u++) {
                boolean apart = false;
                int least = NONE;
                for (int m = 0; m < patterns.length; m++) {
                    if (unmet[m] == 0) {
                        int difference = MEANINGS.get(m)[t] - MEANINGS.get(m)[u];
                        apart |= difference != 0;
                        least = least == NONE || difference < least ? difference : least;
                    }
                }
                least = least < 0 && least != NONE ? ENDLESS : least;
                CHECK.due("apart " + t + " " + u, x.apart(t, u), apart);
                CHECK.due("equal " + t + " " + u, x.equal(t, u), !apart);
                if (t != u) {
                    CHECK.due("least " + t + " " + u, x.least(t, u), least);
                }
            }
        }
    }
}
