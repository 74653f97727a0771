/** Runs of up to 512 calls of all kinds, wrong inputs among them, each answer against Reference's. */
public final class LongRunsTest {
    private static final int RUNS = 400;
    /** What later calls answer is free. */
    private static final int LAST_CALL = 512;
    private static final int MOST_CALLS_OF_A_TURN = 3;
    private static final int[] ODD_NUMBERS = {
        -1, 7, 8, 15, 16, 20, 21, -20, -21, 255, 256, Integer.MIN_VALUE, Integer.MAX_VALUE
    };

    private static final Check CHECK = new Check();
    private static Dice dice;
    private static TheorySolver x;
    private static Reference want;
    private static int offsets;
    /** A run keeps to some terms, so that conditions meet and bounds follow; which they are turns. */
    private static int termCount;
    private static int firstTerm;
    private static StringBuilder told;
    private static int made;

    public static void main(String[] args) {
        for (int run = 0; run < RUNS && !CHECK.failed(); run++) {
            dice = new Dice(run);
            x = new TheorySolver();
            want = new Reference();
            offsets = new int[] {1, 2, 6, 20}[run % 4];
            termCount = 2 + dice.roll(6);
            firstTerm = dice.roll(7);
            told = new StringBuilder("run " + run + ":");
            made = 0;
            if (run % 8 == 0) {
                callUntil(LAST_CALL);
            } else {
                callUntil(60);
                askAboutAllTerms();
            }
        }
        if (CHECK.failed()) {
            System.out.println(told);
        }
        CHECK.end();
    }

    /** A turn makes three calls at most, so those after the last but two may be left out. */
    private static void callUntil(int last) {
        while (made <= last - MOST_CALLS_OF_A_TURN && !CHECK.failed()) {
            call();
        }
    }

    private static void call() {
        int kind = dice.roll(24);
        if (kind < 12) {
            change(kind);
        } else {
            ask(kind);
        }
    }

    private static int term() {
        return dice.oneIn(30) ? odd() : (firstTerm + 3 * dice.roll(termCount)) % 7;
    }

    private static int offset() {
        return dice.oneIn(30) ? odd() : dice.roll(2 * offsets + 1) - offsets;
    }

    private static int someLiteral() {
        return dice.oneIn(20) || want.atoms() == 0 ? odd() : dice.roll(2 * want.atoms());
    }

    /** Mostly one that leaves good meanings: a run without any has little to ask. */
    private static int likelyLiteral() {
        int l = someLiteral();
        return want.implied(l ^ 1) && !dice.oneIn(12) ? l ^ 1 : l;
    }

    private static int odd() {
        return ODD_NUMBERS[dice.roll(ODD_NUMBERS.length)];
    }

    private static void change(int kind) {
        if (kind < 4) {
            int t = term();
            int u = term();
            int k = offset();
            due("atom(" + t + ", " + u + ", " + k + ")", x.atom(t, u, k), want.atom(t, u, k));
        } else if (kind < 7) {
            int l = someLiteral();
            due("literal(" + l + ")", x.literal(l), want.literal(l));
        } else if (kind == 7) {
            clauseOrScrap();
        } else if (kind == 8) {
            int l = likelyLiteral();
            due("fact(" + l + ")", x.fact(l), want.fact(l));
        } else if (kind == 9) {
            due("open()", x.open(), want.open());
        } else if (kind == 10) {
            due("close()", x.close(), want.close());
        } else if (dice.oneIn(20)) {
            due("clause()", x.clause(), want.clause());
        } else {
            due("clauses()", x.clauses(), want.clauses());
        }
    }

    /** A clause without literals leaves little to ask in its level, so here a literal comes first. */
    private static void clauseOrScrap() {
        if (dice.oneIn(8)) {
            x.scrap();
            want.scrap();
            told.append(" scrap()");
            made++;
        }
        int l = likelyLiteral();
        due("literal(" + l + ")", x.literal(l), want.literal(l));
        due("clause()", x.clause(), want.clause());
    }

    private static void ask(int kind) {
        int t = term();
        int u = term();
        int l = someLiteral();
        int p = dice.oneIn(10) ? odd() : dice.roll(1 << want.atoms());
        int k = dice.oneIn(10) ? odd() : dice.roll(want.clauses() + 1);
        switch (kind) {
            case 12 -> due("atoms()", x.atoms(), want.atoms());
            case 13 -> due("clauses()", x.clauses(), want.clauses());
            case 14 -> due("possible()", x.possible(), want.possible());
            case 15 -> due("implied(" + l + ")", x.implied(l), want.implied(l));
            case 16 -> due("equal(" + t + ", " + u + ")", x.equal(t, u), want.equal(t, u));
            case 17 -> due("apart(" + t + ", " + u + ")", x.apart(t, u), want.apart(t, u));
            case 18 -> due("least(" + t + ", " + u + ")", x.least(t, u), want.least(t, u));
            case 19 -> due("pattern(" + p + ")", x.pattern(p), want.pattern(p));
            case 20 -> due("patterns()", x.patterns(), want.patterns());
            case 21 -> due("without(" + k + ")", x.without(k), want.without(k));
            case 22 -> due("undecided()", x.undecided(), want.undecided());
            default -> due("spare()", x.spare(), want.spare());
        }
    }

    private static void askAboutAllTerms() {
        for (int t = 0; t < 7; t++) {
            for (int u = 0; u < 7; u++) {
                due("least(" + t + ", " + u + ")", x.least(t, u), want.least(t, u));
                due("equal(" + t + ", " + u + ")", x.equal(t, u), want.equal(t, u));
            }
        }
    }

    private static void due(String call, int got, int right) {
        told.append(' ').append(call);
        made++;
        CHECK.due(call, got, right);
    }

    private static void due(String call, boolean got, boolean right) {
        due(call, got ? 1 : 0, right ? 1 : 0);
    }
}
