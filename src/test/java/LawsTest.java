import java.util.ArrayList;
import java.util.Arrays;
import java.util.List;

/**
 * What answers must be to each other, whatever the conditions are: no answer is worked out here, each
 * is held against those of the same object later on or of another one made in another way.
 */
public final class LawsTest {
    private static final int PROGRAMS = 80;
    private static final int BAD_ARG = -1000;
    private static final int FULL = -2000;
    private static final int NONE = -3000;
    private static final int ENDLESS = -4000;
    private static final int GREATEST_OFFSET = 20;

    private static final Check CHECK = new Check();
    private static Dice dice;
    private static int program;
    /** Each atom's t, u and k, and each clause's literals. */
    private static int[][] atoms;
    private static int[][] clauses;

    public static void main(String[] args) {
        for (program = 0; program < PROGRAMS; program++) {
            dice = new Dice(9000 + program);
            makeProgram();
            levelsLeaveNoTrace();
            refusedCallsLeaveNoTrace();
            questionsLeaveNoTrace();
            orderOfClausesAndLiterals();
            namesChanged();
            signsTurned();
            clauseSetAside();
            impliedIsThatTheOppositeCannotBe();
            leastIsReachedAndNoMore();
            equalAndApart();
            sameNumbersHaveTheSameF();
            oppositeAsAnAtom();
            patternsOneByOne();
            oneAlikeMakesBothSpare();
            anotherClauseAddsNoMeaning();
        }
        CHECK.end();
    }

    private static void due(String law, boolean so) {
        CHECK.due("program " + program + ", " + law, so, true);
    }

    /** Mostly few terms and offsets that meet each other; seven atoms at most, so that one can be added. */
    private static void makeProgram() {
        int terms = 2 + dice.roll(6);
        int first = dice.roll(7);
        int offsets = new int[] {1, 2, 5, GREATEST_OFFSET}[program % 4];
        atoms = new int[1 + dice.roll(7)][];
        for (int i = 0; i < atoms.length; i++) {
            int t = dice.roll(terms);
            int u = (t + 1 + dice.roll(terms - 1)) % terms;
            int k = dice.roll(2 * offsets + 1) - offsets;
            atoms[i] = new int[] {(first + 3 * t) % 7, (first + 3 * u) % 7, k};
        }
        clauses = new int[dice.roll(dice.oneIn(4) ? 17 : 7)][];
        for (int k = 0; k < clauses.length; k++) {
            clauses[k] = new int[dice.oneIn(30) ? 0 : 1 + dice.roll(4)];
            for (int j = 0; j < clauses[k].length; j++) {
                clauses[k][j] = dice.roll(2 * atoms.length);
            }
        }
    }

    private static TheorySolver made(int[][] someAtoms, int[][] someClauses) {
        TheorySolver x = new TheorySolver();
        for (int[] atom : someAtoms) {
            x.atom(atom[0], atom[1], atom[2]);
        }
        for (int[] clause : someClauses) {
            add(x, clause);
        }
        return x;
    }

    private static TheorySolver made() {
        return made(atoms, clauses);
    }

    private static void add(TheorySolver x, int[] clause) {
        for (int l : clause) {
            x.literal(l);
        }
        x.clause();
    }

    private static int[][] clausesBut(int k) {
        List<int[]> others = new ArrayList<>(Arrays.asList(clauses));
        others.remove(k);
        return others.toArray(new int[0][]);
    }

    /** In some 280 calls: seven atoms have at most 127 patterns, as some of them make a way round. */
    private static List<Integer> allAnswers(TheorySolver x) {
        List<Integer> answers = new ArrayList<>();
        answers.add(x.atoms());
        answers.add(x.clauses());
        for (int k = 0; k < x.clauses(); k++) {
            answers.add(x.without(k) ? 1 : 0);
        }
        answers.add(x.spare());
        answers.addAll(answersOfMeanings(x));
        return answers;
    }

    /** Those that good meanings alone settle. */
    private static List<Integer> answersOfMeanings(TheorySolver x) {
        List<Integer> answers = new ArrayList<>();
        answers.add(x.possible() ? 1 : 0);
        answers.add(x.patterns());
        answers.add(x.undecided());
        for (int l = 0; l < 2 * atoms.length; l++) {
            answers.add(x.implied(l) ? 1 : 0);
        }
        for (int t = 0; t < 7; t++) {
            for (int u = 0; u < 7; u++) {
                answers.add(x.least(t, u));
                answers.add(x.equal(t, u) ? 1 : 0);
            }
        }
        answers.addAll(patternsOf(x));
        return answers;
    }

    private static List<Integer> patternsOf(TheorySolver x) {
        List<Integer> found = new ArrayList<>();
        for (int p = x.pattern(0); p != NONE; p = x.pattern(p + 1)) {
            found.add(p);
        }
        return found;
    }

    private static void levelsLeaveNoTrace() {
        TheorySolver x = new TheorySolver();
        for (int[] atom : atoms) {
            openFillAndClose(x);
            x.atom(atom[0], atom[1], atom[2]);
        }
        int half = clauses.length / 2;
        for (int k = 0; k < clauses.length; k++) {
            if (k == half) {
                openFillAndClose(x);
            }
            add(x, clauses[k]);
        }
        openFillAndClose(x);
        due("levels opened and closed", allAnswers(x).equals(allAnswers(made())));
    }

    private static void openFillAndClose(TheorySolver x) {
        int depth = 1 + dice.roll(2);
        for (int n = 0; n < depth; n++) {
            x.open();
            int t = dice.roll(7);
            x.atom(t, (t + 1 + dice.roll(6)) % 7, dice.roll(7) - 3);
            x.fact(dice.roll(2 * x.atoms()));
            x.literal(dice.roll(2 * x.atoms()));
        }
        for (int n = 0; n < depth; n++) {
            x.close();
        }
    }

    private static void refusedCallsLeaveNoTrace() {
        TheorySolver x = new TheorySolver();
        for (int[] atom : atoms) {
            x.atom(atom[0], atom[1], atom[2]);
            due("refused calls", x.atom(atom[0], atom[1], GREATEST_OFFSET + 1) == BAD_ARG);
            due("refused calls", x.fact(2 * x.atoms()) == BAD_ARG);
        }
        for (int[] clause : clauses) {
            for (int l : clause) {
                x.literal(l);
                due("refused calls", l % 2 == 0 ? x.literal(2 * atoms.length) == BAD_ARG : x.close() == NONE);
            }
            if (clause.length == 4) {
                due("refused calls", x.literal(0) == FULL);
            }
            x.clause();
        }
        due("refused calls", allAnswers(x).equals(allAnswers(made())));
    }

    private static void questionsLeaveNoTrace() {
        TheorySolver x = new TheorySolver();
        for (int[] atom : atoms) {
            x.atom(atom[0], atom[1], atom[2]);
            x.least(atom[0], atom[1]);
        }
        for (int[] clause : clauses) {
            for (int l : clause) {
                x.literal(l);
                x.implied(l);
            }
            x.clause();
            x.without(0);
            x.spare();
        }
        due("questions in between", allAnswers(x).equals(allAnswers(made())));
    }

    /** A literal that is there twice says no more than once. */
    private static void orderOfClausesAndLiterals() {
        int[][] turned = new int[clauses.length][];
        for (int k = 0; k < clauses.length; k++) {
            int[] clause = clauses[clauses.length - 1 - k];
            int count = clause.length;
            int[] literals = Arrays.copyOf(clause, count > 0 && count < 4 ? count + 1 : count);
            for (int j = 0; j < count; j++) {
                literals[j] = clause[count - 1 - j];
            }
            if (literals.length > count) {
                literals[count] = clause[0];
            }
            turned[k] = literals;
        }
        TheorySolver x = made(atoms, turned);
        TheorySolver y = made();
        due("clauses turned round", answersOfMeanings(x).equals(answersOfMeanings(y)));
        due("spare of clauses turned round", x.spare() == y.spare());
        for (int k = 0; k < clauses.length; k++) {
            due("without of clauses turned round", x.without(k) == y.without(clauses.length - 1 - k));
        }
    }

    /** Calling a by b's name, b by c's and c by a's changes no condition. */
    private static void namesChanged() {
        int[] name = {1, 2, 0, 4, 5, 3, 6};
        int[][] renamed = new int[atoms.length][];
        for (int i = 0; i < atoms.length; i++) {
            renamed[i] = new int[] {name[atoms[i][0]], name[atoms[i][1]], atoms[i][2]};
        }
        TheorySolver x = made(renamed, clauses);
        TheorySolver y = made();
        due("patterns by other names", patternsOf(x).equals(patternsOf(y)));
        for (int t = 0; t < 7; t++) {
            for (int u = 0; u < 7; u++) {
                due("least by other names", x.least(name[t], name[u]) == y.least(t, u));
                due("apart by other names", x.apart(name[t], name[u]) == y.apart(t, u));
            }
        }
    }

    /** With every value's sign turned, f is a function still, and t less u is what u less t was. */
    private static void signsTurned() {
        int[][] turned = new int[atoms.length][];
        for (int i = 0; i < atoms.length; i++) {
            turned[i] = new int[] {atoms[i][1], atoms[i][0], atoms[i][2]};
        }
        TheorySolver x = made(turned, clauses);
        TheorySolver y = made();
        due("patterns with signs turned", patternsOf(x).equals(patternsOf(y)));
        for (int t = 0; t < 7; t++) {
            for (int u = 0; u < 7; u++) {
                due("least with signs turned", x.least(u, t) == y.least(t, u));
                due("equal with signs turned", x.equal(u, t) == y.equal(t, u));
            }
        }
    }

    private static void clauseSetAside() {
        TheorySolver x = made();
        List<Integer> patterns = patternsOf(x);
        int spare = 0;
        for (int k = 0; k < clauses.length; k++) {
            TheorySolver y = made(atoms, clausesBut(k));
            due("without " + k, x.without(k) == y.possible());
            spare += patternsOf(y).equals(patterns) ? 1 : 0;
        }
        due("spare", x.spare() == spare);
        due("all clauses stay", x.clauses() == clauses.length && patternsOf(x).equals(patterns));
    }

    private static void impliedIsThatTheOppositeCannotBe() {
        TheorySolver x = roomForOneClause();
        for (int l = 0; l < 2 * atoms.length; l++) {
            boolean implied = x.implied(l);
            int before = x.patterns();
            x.open();
            x.fact(l ^ 1);
            due("implied " + l, x.possible() != implied);
            x.close();
            x.open();
            x.fact(l);
            due("an implied literal shuts out nothing", (x.patterns() == before) == implied);
            x.close();
        }
    }

    private static TheorySolver roomForOneClause() {
        return clauses.length < 16 ? made() : made(atoms, clausesBut(0));
    }

    private static void leastIsReachedAndNoMore() {
        TheorySolver x = roomForOneClause();
        boolean possible = x.possible();
        for (int n = 0; n < 12; n++) {
            int t = dice.roll(7);
            int u = (t + 1 + dice.roll(6)) % 7;
            int least = x.least(t, u);
            due("NONE is for no good meaning", (least == NONE) == !possible);
            if (least == ENDLESS) {
                due("any less than none", canBeAtMost(x, t, u, -GREATEST_OFFSET));
            } else if (least > -GREATEST_OFFSET && least <= GREATEST_OFFSET) {
                due("the least is reached", canBeAtMost(x, t, u, least));
                due("no less is", !canBeAtMost(x, t, u, least - 1));
            }
        }
    }

    private static boolean canBeAtMost(TheorySolver x, int t, int u, int k) {
        x.open();
        int added = x.atom(t, u, k);
        x.fact(2 * added);
        boolean can = x.possible();
        int least = x.least(u, t);
        due("the bound is kept", can ? least >= -k : least == NONE);
        x.close();
        return can;
    }

    private static void equalAndApart() {
        TheorySolver x = made();
        boolean possible = x.possible();
        for (int t = 0; t < 7; t++) {
            for (int u = 0; u < 7; u++) {
                boolean equal = x.equal(t, u);
                due("equal or apart", equal != x.apart(t, u));
                if (t != u && possible) {
                    due("equal if both ways 0", equal == (x.least(t, u) == 0 && x.least(u, t) == 0));
                }
            }
        }
    }

    /** The two atoms that make the numbers the same take the places of the last two, if these are taken. */
    private static void sameNumbersHaveTheSameF() {
        int kept = Math.min(atoms.length, 6);
        int[][] some = Arrays.stream(clauses)
            .filter(clause -> Arrays.stream(clause).allMatch(l -> l < 2 * kept)).limit(14).toArray(int[][]::new);
        TheorySolver x = made(Arrays.copyOf(atoms, kept), some);
        for (int i = 0; i < 3; i++) {
            int j = (i + 1) % 3;
            due("f of the same number", !x.equal(i, j) || x.equal(i + 3, j + 3));
            x.open();
            x.fact(2 * x.atom(i, j, 0));
            x.fact(2 * x.atom(j, i, 0));
            due("the same number", x.equal(i, j));
            due("f of the same number", x.equal(i + 3, j + 3));
            x.close();
        }
    }

    /** "At most k" fails just where "at least k + 1" holds, so an atom that says this parts nothing. */
    private static void oppositeAsAnAtom() {
        TheorySolver x = made();
        List<Integer> before = patternsOf(x);
        for (int i = 0; i < atoms.length; i++) {
            int k = -atoms[i][2] - 1;
            if (k >= -GREATEST_OFFSET) {
                x.open();
                int added = x.atom(atoms[i][1], atoms[i][0], k);
                due("the opposite parts nothing", x.patterns() == before.size());
                due("the opposite is implied", x.implied(2 * added) == x.implied(2 * i + 1));
                due("the opposite is shut out", x.implied(2 * added + 1) == x.implied(2 * i));
                x.close();
            }
        }
    }

    private static void patternsOneByOne() {
        TheorySolver x = made();
        List<Integer> found = patternsOf(x);
        due("patterns are as many as are found", x.patterns() == found.size());
        due("possible if there is one", x.possible() == !found.isEmpty());
        int undecided = 0;
        for (int i = 0; i < atoms.length; i++) {
            int atom = 1 << i;
            boolean held = found.stream().anyMatch(p -> (p & atom) != 0);
            boolean failed = found.stream().anyMatch(p -> (p & atom) == 0);
            undecided += held && failed ? 1 : 0;
            due("implied to hold", x.implied(2 * i) == !failed);
            due("implied not to hold", x.implied(2 * i + 1) == !held);
        }
        due("undecided", x.undecided() == undecided);
        for (int p : found) {
            for (int[] clause : clauses) {
                boolean met = Arrays.stream(clause).anyMatch(l -> (p >> (l / 2)) % 2 == 1 - l % 2);
                due("a good meaning meets all clauses", met);
            }
        }
    }

    private static void oneAlikeMakesBothSpare() {
        if (clauses.length == 0 || clauses.length == 16) {
            return;
        }
        TheorySolver x = made();
        int spare = x.spare();
        int twice = dice.roll(clauses.length);
        boolean spareBefore = patternsOf(made(atoms, clausesBut(twice))).equals(patternsOf(x));
        add(x, clauses[twice]);
        due("of two alike both are spare", x.spare() == spare + (spareBefore ? 1 : 2));
        due("one alike changes nothing", patternsOf(x).equals(patternsOf(made())));
    }

    private static void anotherClauseAddsNoMeaning() {
        TheorySolver x = roomForOneClause();
        List<Integer> before = patternsOf(x);
        x.open();
        add(x, new int[] {dice.roll(2 * atoms.length), dice.roll(2 * atoms.length)});
        due("no new pattern", before.containsAll(patternsOf(x)));
        x.close();
        due("all are back", patternsOf(x).equals(before));
    }
}
