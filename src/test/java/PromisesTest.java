/** The promises one by one: ordinary inputs, the edges that the document names, and wrong inputs. */
public final class PromisesTest {
    private static final int BAD_ARG = -1000;
    private static final int FULL = -2000;
    private static final int NONE = -3000;
    private static final int ENDLESS = -4000;
    private static final int LOWEST = Integer.MIN_VALUE;
    private static final int HIGHEST = Integer.MAX_VALUE;

    private static final Check CHECK = new Check();
    private static int promise;
    private static TheorySolver x;

    public static void main(String[] args) {
        newObject();
        atom();
        literal();
        scrap();
        clause();
        fact();
        open();
        close();
        closeBringsBackWhatWas();
        counts();
        possible();
        implied();
        equal();
        apart();
        least();
        leastOverManySteps();
        pattern();
        patterns();
        without();
        undecided();
        spare();
        CHECK.end();
    }

    private static void begin(int number) {
        promise = number;
        x = new TheorySolver();
    }

    private static void due(String call, int got, int want) {
        CHECK.due("promise " + promise + ": " + call, got, want);
    }

    private static void due(String call, boolean got, boolean want) {
        CHECK.due("promise " + promise + ": " + call, got, want);
    }

    /** Adds a clause of the literals; the clause being made must be empty. */
    private static int or(int... literals) {
        for (int l : literals) {
            x.literal(l);
        }
        return x.clause();
    }

    private static void newObject() {
        begin(1);
        due("atoms", x.atoms(), 0);
        due("clauses", x.clauses(), 0);
        due("possible", x.possible(), true);
        due("patterns", x.patterns(), 1);
        due("undecided", x.undecided(), 0);
        due("spare", x.spare(), 0);
        due("close", x.close(), NONE);
        x.atom(0, 1, 0);
        due("first literal", x.literal(0), 1);
        begin(1);
        due("clause", x.clause(), 0);
        due("possible with the clause without literals", x.possible(), false);
    }

    private static void atom() {
        begin(2);
        int[][] bad = {
            {-1, 0, 0}, {7, 0, 0}, {0, -1, 0}, {0, 7, 0}, {3, 3, 0}, {6, 6, 5}, {0, 1, 21}, {0, 1, -21},
            {LOWEST, 0, 0}, {HIGHEST, 0, 0}, {0, LOWEST, 0}, {0, HIGHEST, 0}, {0, 1, LOWEST}, {0, 1, HIGHEST}
        };
        for (int[] a : bad) {
            due("atom with a bad argument", x.atom(a[0], a[1], a[2]), BAD_ARG);
        }
        due("atoms after the refused ones", x.atoms(), 0);
        due("atom 0", x.atom(0, 6, 20), 0);
        due("atom 1", x.atom(6, 0, -20), 1);
        due("atom 2, once more the same", x.atom(6, 0, -20), 2);
        for (int i = 3; i < 8; i++) {
            due("atom " + i, x.atom(i - 3, i - 2, i), i);
        }
        due("a ninth", x.atom(0, 1, 0), FULL);
        for (int[] a : bad) {
            due("a ninth with a bad argument", x.atom(a[0], a[1], a[2]), BAD_ARG);
        }
        due("atoms when full", x.atoms(), 8);
        x.fact(0);
        x.fact(2);
        due("the greatest a", x.least(6, 0), -20);
        due("the least a", x.least(0, 6), 20);
    }

    private static void literal() {
        begin(3);
        due("of no atom", x.literal(0), BAD_ARG);
        x.atom(0, 1, 0);
        due("of atom 1", x.literal(2), BAD_ARG);
        due("not of atom 1", x.literal(3), BAD_ARG);
        for (int l : new int[] {-1, -2, 15, 16, LOWEST, HIGHEST}) {
            due("literal " + l, x.literal(l), BAD_ARG);
        }
        for (int n = 1; n <= 4; n++) {
            due("the same one", x.literal(1), n);
        }
        due("a fifth", x.literal(0), FULL);
        due("a fifth that is bad", x.literal(2), BAD_ARG);
        due("clause", x.clause(), 0);
        due("the refused ones changed nothing", x.implied(1), true);
        due("the next clause", x.literal(0), 1);
        begin(3);
        for (int i = 0; i < 8; i++) {
            x.atom(0, 6, i);
        }
        due("15 with 8 atoms", x.literal(15), 1);
        due("16 with 8 atoms", x.literal(16), BAD_ARG);
        due("14 with 8 atoms", x.literal(14), 2);
        x.clause();
        due("holds or does not shuts out nothing", x.patterns(), 9);
    }

    private static void scrap() {
        begin(4);
        x.scrap();
        x.atom(0, 1, 0);
        x.literal(0);
        x.literal(0);
        x.scrap();
        due("literal", x.literal(1), 1);
        x.clause();
        due("only the later literal counts", x.implied(1), true);
        x.literal(0);
        x.scrap();
        x.clause();
        due("an empty clause", x.possible(), false);
        due("clauses", x.clauses(), 2);
    }

    private static void clause() {
        begin(5);
        x.atom(0, 1, 0);
        x.atom(1, 2, 0);
        x.literal(0);
        x.literal(3);
        due("clause", x.clause(), 0);
        due("its patterns", x.patterns(), 3);
        due("the next one has no literal", x.literal(1), 1);
        due("clause", x.clause(), 1);
        due("implied by both", x.implied(3), true);
        for (int k = 2; k < 16; k++) {
            x.literal(1);
            due("clause " + k, x.clause(), k);
        }
        x.literal(0);
        due("a seventeenth", x.clause(), FULL);
        due("a seventeenth again", x.clause(), FULL);
        due("what was being made stays", x.literal(0), 2);
        due("clauses", x.clauses(), 16);
        due("possible still", x.possible(), true);
        begin(5);
        x.atom(0, 1, 0);
        x.open();
        for (int k = 0; k < 16; k++) {
            x.clause();
        }
        due("FULL", x.clause(), FULL);
        x.close();
        x.literal(0);
        due("first again", x.clause(), 0);
        due("holds", x.implied(0), true);
    }

    private static void fact() {
        begin(6);
        due("of no atom", x.fact(0), BAD_ARG);
        x.atom(0, 1, 0);
        x.atom(1, 0, 3);
        for (int l : new int[] {-1, 4, 5, 15, 16, LOWEST, HIGHEST}) {
            due("fact " + l, x.fact(l), BAD_ARG);
        }
        x.literal(0);
        x.literal(2);
        due("fact", x.fact(1), 0);
        due("the clause being made stays", x.literal(2), 3);
        due("implied", x.implied(1), true);
        x.clause();
        due("and is added whole", x.implied(2), true);
        for (int k = 2; k < 16; k++) {
            due("fact", x.fact(1), k);
        }
        x.literal(2);
        due("a seventeenth", x.fact(0), FULL);
        due("a seventeenth that is bad", x.fact(4), BAD_ARG);
        due("clauses", x.clauses(), 16);
        due("the clause being made stays when refused", x.literal(2), 2);
    }

    private static void open() {
        begin(7);
        x.atom(0, 1, 0);
        x.fact(0);
        x.literal(0);
        for (int n = 1; n <= 4; n++) {
            due("open", x.open(), n);
        }
        due("a fifth", x.open(), FULL);
        due("atoms", x.atoms(), 1);
        due("clauses", x.clauses(), 1);
        due("the clause being made stays", x.literal(0), 2);
        due("implied", x.implied(0), true);
        due("close", x.close(), 3);
        due("open again", x.open(), 4);
    }

    private static void close() {
        begin(8);
        x.atom(0, 1, 0);
        x.literal(0);
        due("none open", x.close(), NONE);
        due("a refused close leaves the clause being made", x.literal(0), 2);
        x.open();
        x.atom(1, 2, 0);
        x.literal(2);
        x.fact(2);
        due("close", x.close(), 0);
        due("atoms", x.atoms(), 1);
        due("clauses", x.clauses(), 0);
        due("the atom of the level is gone", x.literal(2), BAD_ARG);
        due("the clause being made has no literal", x.literal(0), 1);
        due("none open", x.close(), NONE);
    }

    private static void closeBringsBackWhatWas() {
        begin(8);
        x.atom(0, 1, 0);
        x.fact(0);
        x.open();
        x.atom(1, 0, -1);
        x.open();
        x.fact(3);
        x.atom(1, 0, 0);
        x.fact(4);
        due("equal inside", x.equal(0, 1), true);
        due("f too", x.equal(3, 4), true);
        due("close", x.close(), 1);
        due("not equal outside", x.equal(0, 1), false);
        due("patterns", x.patterns(), 1);
        due("another atom of the same number", x.atom(0, 1, -5), 2);
        due("patterns with it", x.patterns(), 2);
        due("least", x.least(0, 1), ENDLESS);
        due("close", x.close(), 0);
        due("atoms", x.atoms(), 1);
        due("clauses", x.clauses(), 1);
        due("patterns", x.patterns(), 1);
        due("implied", x.implied(0), true);
    }

    private static void counts() {
        begin(9);
        for (int i = 0; i < 8; i++) {
            due("atoms", x.atoms(), i);
            x.atom(0, 1, i);
        }
        due("atoms", x.atoms(), 8);
        x.atom(0, 1, 0);
        due("atoms after a refusal", x.atoms(), 8);
        begin(10);
        x.atom(0, 1, 0);
        for (int k = 0; k < 16; k += 2) {
            due("clauses", x.clauses(), k);
            x.fact(0);
            due("clauses", x.clauses(), k + 1);
            x.clause();
        }
        due("clauses", x.clauses(), 16);
        x.clause();
        due("clauses after a refusal", x.clauses(), 16);
    }

    private static void possible() {
        begin(11);
        x.atom(0, 1, -1);
        x.atom(1, 2, -1);
        x.atom(2, 0, 1);
        due("no clause", x.possible(), true);
        or(0);
        or(2);
        due("a < b < c", x.possible(), true);
        or(4);
        due("and c at most a + 1", x.possible(), false);
        begin(11);
        x.atom(0, 1, 0);
        x.atom(1, 0, 0);
        x.atom(3, 4, -1);
        or(0);
        or(4);
        due("a <= b, f(a) < f(b)", x.possible(), true);
        x.open();
        or(2);
        due("a = b, f(a) < f(b)", x.possible(), false);
        x.close();
        due("after closing", x.possible(), true);
        x.atom(3, 4, 3);
        or(5, 1);
        due("no clause can be met", x.possible(), false);
    }

    /** c lies between a and a + 1, so it is a or b = a + 1, so f(c) is f(a) or f(b). */
    private static void squeeze() {
        x.atom(0, 1, -1);
        x.atom(1, 0, 1);
        x.atom(0, 2, 0);
        x.atom(2, 1, 0);
        for (int i = 0; i < 4; i++) {
            x.fact(2 * i);
        }
        x.atom(5, 3, -3);
        x.atom(5, 4, -3);
    }

    private static void implied() {
        begin(12);
        due("of no atom", x.implied(0), false);
        x.atom(0, 1, 3);
        x.atom(0, 1, 4);
        x.atom(0, 1, 2);
        x.fact(0);
        due("itself", x.implied(0), true);
        due("not itself", x.implied(1), false);
        due("the weaker", x.implied(2), true);
        due("the stronger", x.implied(4), false);
        due("not the stronger", x.implied(5), false);
        for (int l : new int[] {-1, 6, 7, 15, 16, LOWEST, HIGHEST}) {
            due("literal " + l, x.implied(l), false);
        }
        x.fact(1);
        due("no good meaning", x.implied(0) && x.implied(1) && x.implied(4), true);
        due("no good meaning, bad literal", x.implied(6), false);
        begin(12);
        squeeze();
        due("squeezed: not f(c) < f(a)", x.implied(9), false);
        x.fact(8);
        due("squeezed: then not f(c) < f(b)", x.implied(11), true);
    }

    private static void equal() {
        begin(13);
        for (int t = 0; t < 7; t++) {
            due("itself", x.equal(t, t), true);
            due("another", x.equal(t, (t + 1) % 7), false);
        }
        int[][] bad = {{-1, 0}, {0, -1}, {7, 0}, {0, 7}, {7, 7}, {-1, -1}, {LOWEST, HIGHEST}};
        for (int[] a : bad) {
            due("bad", x.equal(a[0], a[1]), false);
        }
        x.atom(0, 2, 0);
        x.atom(2, 0, 0);
        x.fact(0);
        due("a <= c", x.equal(0, 2), false);
        x.fact(2);
        due("a = c", x.equal(0, 2), true);
        due("c = a", x.equal(2, 0), true);
        due("f(a) = f(c)", x.equal(3, 5), true);
        due("f(a) = f(b)", x.equal(3, 4), false);
        x.fact(1);
        due("no good meaning", x.equal(0, 6), true);
        for (int[] a : bad) {
            due("bad without a good meaning", x.equal(a[0], a[1]), false);
        }
        begin(13);
        squeeze();
        due("c = a or c = b", x.equal(2, 0) || x.equal(2, 1), false);
        x.fact(8);
        due("f(c) is not f(a)", x.equal(2, 1), true);
    }

    private static void apart() {
        begin(14);
        due("itself", x.apart(3, 3), false);
        due("another", x.apart(3, 4), true);
        int[][] bad = {{-1, 0}, {0, -1}, {7, 0}, {0, 7}, {7, 8}, {LOWEST, HIGHEST}};
        for (int[] a : bad) {
            due("bad", x.apart(a[0], a[1]), false);
        }
        x.atom(1, 2, 0);
        x.atom(2, 1, 0);
        x.fact(0);
        due("b <= c", x.apart(1, 2), true);
        due("c >= b", x.apart(2, 1), true);
        x.fact(2);
        due("b = c", x.apart(1, 2), false);
        due("f(b) = f(c)", x.apart(5, 4), false);
        due("f(a), f(b)", x.apart(3, 4), true);
        x.fact(3);
        due("no good meaning", x.apart(0, 6), false);
    }

    private static void least() {
        begin(15);
        int[][] bad = {{-1, 0}, {0, -1}, {7, 0}, {0, 7}, {2, 2}, {6, 6}, {LOWEST, HIGHEST}};
        for (int[] a : bad) {
            due("bad", x.least(a[0], a[1]), BAD_ARG);
        }
        due("no atom", x.least(0, 6), ENDLESS);
        x.atom(0, 6, 7);
        x.atom(0, 6, -3);
        x.fact(0);
        due("a at most 7: least -a", x.least(6, 0), -7);
        due("a at most 7: least a", x.least(0, 6), ENDLESS);
        x.fact(3);
        due("a more than -3", x.least(0, 6), -2);
        x.fact(1);
        due("no good meaning", x.least(0, 6), NONE);
        for (int[] a : bad) {
            due("bad without a good meaning", x.least(a[0], a[1]), BAD_ARG);
        }
        begin(15);
        x.atom(6, 1, -5);
        x.atom(6, 1, -2);
        x.atom(2, 6, 0);
        or(0, 5);
        or(2);
        due("b at least 2, or 5 if c <= 0", x.least(1, 6), 2);
        x.fact(4);
        due("b at least 5", x.least(1, 6), 5);
        begin(15);
        // f(a) and f(b) differ, so a and b do: a >= b is then a > b.
        x.atom(3, 4, -1);
        x.atom(1, 0, 0);
        x.fact(0);
        x.fact(2);
        due("a - b", x.least(0, 1), 1);
        due("b - a", x.least(1, 0), ENDLESS);
    }

    private static void leastOverManySteps() {
        begin(15);
        for (int i = 0; i < 6; i++) {
            x.atom(i, i + 1, -20);
            x.fact(2 * i);
        }
        due("six steps of 20", x.least(6, 0), 120);
        due("without end the other way", x.least(0, 6), ENDLESS);
        begin(15);
        for (int i = 0; i < 6; i++) {
            x.atom(i, i + 1, 20);
            x.fact(2 * i + 1);
        }
        due("six steps of more than 20", x.least(0, 6), 126);
        begin(15);
        for (int i = 0; i < 6; i++) {
            x.atom(i, i + 1, 20);
            x.fact(2 * i);
        }
        due("at most six steps of 20", x.least(6, 0), -120);
    }

    private static void pattern() {
        begin(16);
        due("no atom, from 0", x.pattern(0), 0);
        due("no atom, from 1", x.pattern(1), NONE);
        due("no atom, from the lowest", x.pattern(LOWEST), 0);
        due("no atom, from the highest", x.pattern(HIGHEST), NONE);
        x.atom(0, 1, 0);
        x.atom(0, 1, 5);
        x.atom(1, 0, 0);
        // a - b: 0 is pattern 7, below 0 is 3, 1 to 5 is 6, above 5 is 4.
        due("from -1", x.pattern(-1), 3);
        due("from 3", x.pattern(3), 3);
        due("from 4", x.pattern(4), 4);
        due("from 5", x.pattern(5), 6);
        due("from 7", x.pattern(7), 7);
        due("from 8", x.pattern(8), NONE);
        x.fact(4);
        due("with a >= b", x.pattern(0), 4);
        x.fact(5);
        due("no good meaning", x.pattern(0), NONE);
        begin(16);
        for (int i = 0; i < 8; i++) {
            x.atom(i % 6, 6, i);
        }
        due("the last of 8 atoms", x.pattern(255), 255);
        due("beyond the last", x.pattern(256), NONE);
    }

    private static void patterns() {
        begin(17);
        due("no atom", x.patterns(), 1);
        x.atom(0, 1, 0);
        due("one atom", x.patterns(), 2);
        x.atom(1, 0, 0);
        due("a <= b, b <= a: not neither", x.patterns(), 3);
        x.atom(3, 4, 0);
        x.atom(4, 3, 0);
        due("a = b only with f(a) = f(b)", x.patterns(), 7);
        x.fact(0);
        due("a <= b", x.patterns(), 4);
        x.fact(1);
        due("no good meaning", x.patterns(), 0);
        begin(17);
        for (int i = 0; i < 6; i++) {
            x.atom(i, 6, 3 * i);
        }
        x.atom(3, 6, 20);
        x.atom(4, 6, -20);
        due("6 free bounds, two of them split", x.patterns(), 144);
    }

    private static void without() {
        begin(18);
        due("no clause", x.without(0), false);
        x.atom(0, 1, 0);
        x.fact(0);
        x.fact(0);
        due("one of two, possible anyway", x.without(1), true);
        x.fact(1);
        due("one of the two that agree", x.without(0), false);
        due("the one that does not", x.without(2), true);
        for (int k : new int[] {-1, 3, 15, 16, LOWEST, HIGHEST}) {
            due("clause " + k, x.without(k), false);
        }
        due("nothing was taken away", x.possible(), false);
        due("clauses", x.clauses(), 3);
        x.clause();
        due("the empty one", x.without(3), false);
        due("another beside the empty one", x.without(2), false);
    }

    private static void undecided() {
        begin(19);
        x.atom(0, 1, 3);
        x.atom(0, 1, 5);
        x.atom(2, 6, 0);
        due("all free", x.undecided(), 3);
        x.fact(0);
        due("with a - b <= 3", x.undecided(), 1);
        x.fact(5);
        due("with c > 0", x.undecided(), 0);
        x.fact(4);
        due("no good meaning", x.undecided(), 0);
        begin(19);
        for (int i = 0; i < 8; i++) {
            x.atom(i % 6, 6, i);
        }
        due("8 atoms", x.undecided(), 8);
    }

    private static void spare() {
        begin(20);
        x.atom(0, 1, 3);
        x.atom(0, 1, 5);
        or(2);
        due("the only one", x.spare(), 0);
        or(0);
        due("the weaker beside the stronger", x.spare(), 1);
        or(0);
        due("each of two alike", x.spare(), 3);
        due("nothing was taken away", x.clauses(), 3);
        begin(20);
        x.atom(0, 1, 0);
        or(0, 1);
        due("holds or does not", x.spare(), 1);
        or();
        due("beside the empty one", x.spare(), 1);
        or();
        due("two empty ones", x.spare(), 3);
        begin(20);
        x.atom(0, 1, 0);
        or(0);
        or(1);
        due("each needed to shut out all", x.spare(), 0);
        begin(20);
        x.atom(0, 1, 3);
        x.atom(0, 1, 5);
        or(1, 2);
        due("met by every meaning", x.spare(), 1);
    }
}
