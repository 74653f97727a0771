/** The sentences of the document that name a boundary case, with a test for each, in its order. */
public final class BoundariesTest {
    private static final int BAD_ARG = -1000;
    private static final int FULL = -2000;
    private static final int NONE = -3000;
    private static final int ENDLESS = -4000;
    private static final int LOWEST = Integer.MIN_VALUE;
    private static final int HIGHEST = Integer.MAX_VALUE;
    private static final int[] FAR = {
        LOWEST, LOWEST + 1, -1000000000, -65536, -257, -256, 255, 256, 65536, 613566757, 1000000000,
        HIGHEST - 1, HIGHEST
    };

    private static final Check CHECK = new Check();
    private static String sentence;
    private static TheorySolver x;

    public static void main(String[] args) {
        calls();
        terms();
        clausesAndLevels();
        makingClauses();
        levels();
        counts();
        questionsOfLiteralsAndTerms();
        questionsOfPatternsAndClauses();
        CHECK.end();
    }

    private static void calls() {
        levelsUntilCall512();
        atomsUntilCall512();
        literalsUntilCall512();
        clausesUntilCall512();
        refusedUntilCall512();
        questionsUntilCall512();
    }

    private static void terms() {
        termsAre0To6();
        valuesHaveNoLimit();
        valuesOfFAreFree();
        differentValuesMayHaveOneF();
        noWholeNumberBetween();
        term6Is0();
        atMost8Atoms();
        atomsAreOfDifferentTerms();
        offsetsAreMinus20To20();
        holdsIfAtMostTheOffset();
        literalsAre0To15();
    }

    private static void clausesAndLevels() {
        clausesHave0To4Literals();
        noneMeetsAClauseWithoutLiterals();
        atMost16Clauses();
        goodIsToMeetAll();
        openingKeepsAll();
        closingTakesAwayWhatWasAdded();
        closingMakesRoom();
        atMost4Levels();
        patternsAreSumsOfPowers();
        noCallThrows();
    }

    private static void makingClauses() {
        newObject();
        atomNumbers();
        literalOfAnAtomThatIsNotThere();
        literalCounts();
        literalOfAnAtomThatWasTakenAway();
        scrapOfNothing();
        scrapOfFour();
        clauseEmptiesTheDraft();
        clauseNumbers();
        factNumbers();
        factLeavesTheDraft();
    }

    private static void levels() {
        openCounts();
        openLeavesTheDraft();
        closeCounts();
        closeEmptiesTheDraft();
        refusedCloseLeavesTheDraft();
        levelsWithNothingInThem();
    }

    private static void counts() {
        atomsFrom0To8();
        clausesFrom0To16();
    }

    private static void questionsOfLiteralsAndTerms() {
        possibleWithNothing();
        possibleAtTheEdge();
        impliedAtTheEdge();
        impliedWithoutGoodMeaning();
        impliedOfAnAtomThatIsNotThere();
        equalOfOneTerm();
        equalAtTheEdge();
        equalWithoutGoodMeaning();
        apartOfOneTerm();
        apartAtTheEdge();
        apartWithoutGoodMeaning();
        leastAtTheEdge();
        leastOfTheLongestWay();
        leastWithoutEnd();
        leastWithoutGoodMeaning();
    }

    private static void questionsOfPatternsAndClauses() {
        patternFromBelow();
        patternNotLessThan();
        patternFromBeyond();
        patternWithoutGoodMeaning();
        patternsWithNothing();
        patternsWithAll();
        withoutClauseOutOfRange();
        withoutTheOnlyClause();
        withoutTheLastOf16();
        undecidedWithNothing();
        undecidedOfAll();
        undecidedWithoutGoodMeaning();
        spareWithNothing();
        spareOfAll16();
        spareWithoutGoodMeaning();
    }

    private static void begin(String words) {
        sentence = words;
        x = new TheorySolver();
    }

    private static void due(String call, int got, int want) {
        CHECK.due("\"" + sentence + "\": " + call, got, want);
    }

    private static void due(String call, boolean got, boolean want) {
        CHECK.due("\"" + sentence + "\": " + call, got, want);
    }

    /** Adds a clause of the literals; the clause being made must have none. */
    private static int or(int... literals) {
        for (int l : literals) {
            x.literal(l);
        }
        return x.clause();
    }

    private static void levelsUntilCall512() {
        begin("at most 512 calls");
        for (int n = 0; n < 64; n++) {
            for (int open = 1; open <= 4; open++) {
                due("open()", x.open(), open);
            }
            for (int open = 3; open >= 0; open--) {
                due("close()", x.close(), open);
            }
        }
    }

    private static void atomsUntilCall512() {
        begin("at most 512 calls");
        for (int n = 0; n < 46; n++) {
            x.open();
            for (int i = 0; i < 8; i++) {
                due("atom", x.atom(i % 6, 6, n % 20), i);
            }
            due("a ninth", x.atom(0, 6, 0), FULL);
            x.close();
        }
        due("call 507: atom", x.atom(0, 1, 5), 0);
        due("call 508: atom", x.atom(1, 0, 5), 1);
        due("call 509: fact", x.fact(0), 0);
        due("call 510: fact", x.fact(3), 1);
        due("call 511: patterns", x.patterns(), 1);
        due("call 512: least", x.least(1, 0), 6);
    }

    private static void literalsUntilCall512() {
        begin("at most 512 calls");
        due("atom", x.atom(0, 1, 0), 0);
        for (int n = 0; n < 84; n++) {
            for (int count = 1; count <= 4; count++) {
                due("literal", x.literal(n % 2), count);
            }
            due("a fifth", x.literal(0), FULL);
            x.scrap();
        }
        for (int count = 1; count <= 4; count++) {
            due("literal", x.literal(1), count);
        }
        due("call 510: clause", x.clause(), 0);
        due("call 511: implied", x.implied(1), true);
        due("call 512: implied", x.implied(0), false);
    }

    private static void clausesUntilCall512() {
        begin("at most 512 calls");
        x.atom(0, 1, 0);
        for (int n = 0; n < 26; n++) {
            x.open();
            for (int k = 0; k < 16; k++) {
                due("fact", x.fact(k % 2), k);
            }
            due("a seventeenth", x.fact(0), FULL);
            x.close();
        }
        for (int k = 0; k < 16; k++) {
            due("call " + (496 + k) + ": fact", x.fact(0), k);
        }
        due("call 512: spare", x.spare(), 16);
    }

    private static void refusedUntilCall512() {
        begin("at most 512 calls");
        for (int n = 0; n < 511; n++) {
            due("atom", x.atom(n, n, n), BAD_ARG);
        }
        due("call 512: atom", x.atom(0, 1, 0), 0);
    }

    private static void questionsUntilCall512() {
        begin("at most 512 calls");
        x.atom(0, 1, 4);
        x.fact(1);
        for (int n = 2; n < 512; n++) {
            due("call " + (n + 1) + ": least", x.least(0, 1), 5);
        }
    }

    private static void termsAre0To6() {
        for (int t = 0; t < 7; t++) {
            for (int u = 0; u < 7; u++) {
                begin("TERMS are 0 to 6");
                String pair = "(" + t + ", " + u + ")";
                due("atom" + pair, x.atom(t, u, 2), t == u ? BAD_ARG : 0);
                due("equal" + pair, x.equal(t, u), t == u);
                due("apart" + pair, x.apart(t, u), t != u);
                due("least" + pair, x.least(t, u), t == u ? BAD_ARG : ENDLESS);
                x.fact(0);
                due("least" + pair + " after the atom", x.least(u, t), t == u ? BAD_ARG : -2);
            }
        }
        for (int bad : new int[] {-1, 7}) {
            begin("TERMS are 0 to 6");
            due("atom of " + bad, x.atom(bad, 3, 0), BAD_ARG);
            due("atom with " + bad, x.atom(3, bad, 0), BAD_ARG);
            due("equal of " + bad, x.equal(bad, bad), false);
            due("apart of " + bad, x.apart(bad, 3), false);
            due("least of " + bad, x.least(bad, 3), BAD_ARG);
        }
    }

    /** Six atoms in a row ask for the widest span; every difference has an end one way and not the other. */
    private static void valuesHaveNoLimit() {
        begin("whole numbers (any, without limit)");
        for (int i = 0; i < 6; i++) {
            x.atom(i, i + 1, 20);
            x.fact(2 * i + 1);
        }
        for (int t = 0; t < 7; t++) {
            for (int u = t + 1; u < 7; u++) {
                due("least(" + t + ", " + u + ") of steps of 21", x.least(t, u), 21 * (u - t));
                due("least(" + u + ", " + t + ") of steps of 21", x.least(u, t), ENDLESS);
            }
        }
        begin("whole numbers (any, without limit)");
        for (int i = 0; i < 6; i++) {
            x.atom(i, i + 1, -20);
            x.fact(2 * i);
        }
        for (int t = 0; t < 7; t++) {
            for (int u = t + 1; u < 7; u++) {
                due("least(" + t + ", " + u + ") of steps of -20", x.least(t, u), ENDLESS);
                due("least(" + u + ", " + t + ") of steps of -20", x.least(u, t), 20 * (u - t));
            }
        }
    }

    private static void valuesOfFAreFree() {
        for (int i = 0; i < 3; i++) {
            int next = (i + 1) % 3;
            int third = (i + 2) % 3;
            begin("a function f from whole numbers to whole numbers");
            x.atom(i, 6, 0);
            x.atom(6, i, 0);
            x.fact(0);
            x.fact(2);
            due("a = 0 says nothing of f(a)", x.least(i + 3, 6), ENDLESS);
            due("a = 0 says nothing of f(b)", x.least(6, next + 3), ENDLESS);
            x.atom(next, 6, 0);
            x.atom(6, next, 0);
            x.fact(4);
            due("b at most 0 leaves f(b) free", x.apart(i + 3, next + 3), true);
            x.fact(6);
            due("b = 0 makes f(a) and f(b) the same", x.apart(i + 3, next + 3), false);
            due("and leaves f(c) free", x.apart(next + 3, third + 3), true);
        }
    }

    private static void differentValuesMayHaveOneF() {
        for (int i = 0; i < 3; i++) {
            int next = (i + 1) % 3;
            begin("a function f from whole numbers to whole numbers");
            x.atom(i + 3, next + 3, 0);
            x.atom(next + 3, i + 3, 0);
            x.atom(i, next, -20);
            x.fact(0);
            x.fact(2);
            due("f(a) = f(b) leaves a and b free", x.least(i, next), ENDLESS);
            x.fact(4);
            due("they may be far apart", x.possible(), true);
        }
    }

    /** Only one whole number is more than 4 and less than 6, so a and b, if both are, are the same. */
    private static void noWholeNumberBetween() {
        for (int i = 0; i < 3; i++) {
            int next = (i + 1) % 3;
            begin("a function f from whole numbers to whole numbers");
            x.atom(i, 6, 4);
            x.atom(i, 6, 5);
            x.atom(next, 6, 4);
            x.atom(next, 6, 6);
            x.fact(1);
            x.fact(2);
            x.fact(5);
            x.fact(6);
            due("5, and 5 or 6", x.apart(i + 3, next + 3), true);
            x.atom(next, 6, 5);
            x.fact(8);
            due("5 and 5", x.apart(i + 3, next + 3), false);
        }
    }

    private static void term6Is0() {
        begin("term 6 the value 0");
        for (int t = 0; t < 6; t++) {
            begin("term 6 the value 0");
            x.atom(t, 6, -1);
            x.atom(6, t, 0);
            due("less than 0 or not, and not both", x.patterns(), 2);
            x.fact(0);
            due("at most -1", x.least(6, t), 1);
        }
    }

    private static void atMost8Atoms() {
        begin("at most 8 ATOMS, numbered from 0 on");
        for (int i = 0; i < 8; i++) {
            due("atom " + i, x.atom(0, 1, i), i);
        }
        due("a ninth", x.atom(0, 1, 8), FULL);
        due("atoms", x.atoms(), 8);
        due("patterns of 8 bounds on one difference", x.patterns(), 9);
    }

    private static void atomsAreOfDifferentTerms() {
        begin("an atom is two different terms t and u");
        for (int t = -2; t < 9; t++) {
            due("atom of " + t + " twice", x.atom(t, t, 0), BAD_ARG);
        }
        for (int t : FAR) {
            due("atom of " + t + " twice", x.atom(t, t, 0), BAD_ARG);
        }
        due("atoms", x.atoms(), 0);
    }

    private static void offsetsAreMinus20To20() {
        for (int k = -30; k <= 30; k++) {
            begin("a whole number k from -20 to 20");
            due("atom(0, 6, " + k + ")", x.atom(0, 6, k), k < -20 || k > 20 ? BAD_ARG : 0);
            due("atoms", x.atoms(), k < -20 || k > 20 ? 0 : 1);
        }
        begin("a whole number k from -20 to 20");
        for (int k : FAR) {
            due("atom(0, 6, " + k + ")", x.atom(0, 6, k), BAD_ARG);
            due("atom(6, 0, " + k + ")", x.atom(6, 0, k), BAD_ARG);
        }
    }

    private static void holdsIfAtMostTheOffset() {
        for (int k = -20; k <= 20; k++) {
            begin("it HOLDS if the value of t less that of u is at most k");
            x.atom(2, 4, k);
            x.open();
            x.fact(0);
            due("the greatest difference if it holds", -x.least(4, 2), k);
            x.close();
            x.fact(1);
            due("the least difference if it does not", x.least(2, 4), k + 1);
        }
    }

    private static void literalsAre0To15() {
        for (int i = 0; i < 8; i++) {
            begin("LITERALS are 0 to 15: 2 i says that atom i holds, 2 i + 1 that it does not");
            for (int j = 0; j < 8; j++) {
                x.atom(j % 6, 6, 2 * j);
            }
            due("literal 2 i", x.literal(2 * i), 1);
            x.open();
            x.scrap();
            due("literal 2 i + 1", x.literal(2 * i + 1), 1);
            x.clause();
            due("atom i does not hold", x.implied(2 * i + 1), true);
            due("its least value", x.least(i % 6, 6), 2 * i + 1);
            x.close();
            due("fact 2 i", x.fact(2 * i), 0);
            due("atom i holds", x.implied(2 * i), true);
            due("its greatest value", x.least(6, i % 6), -2 * i);
        }
        due("literal -1", x.literal(-1), BAD_ARG);
        due("literal 16", x.literal(16), BAD_ARG);
        due("fact -1", x.fact(-1), BAD_ARG);
        due("fact 16", x.fact(16), BAD_ARG);
        due("implied -1", x.implied(-1), false);
        due("implied 16", x.implied(16), false);
    }

    /** Of five atoms that are free of each other, a clause of n literals shuts out one part in 2^n. */
    private static void clausesHave0To4Literals() {
        for (int n = 0; n <= 4; n++) {
            begin("a list of 0 to 4 literals");
            for (int i = 0; i < 5; i++) {
                x.atom(i, 6, i);
            }
            for (int count = 1; count <= n; count++) {
                due("literal", x.literal(2 * count - 2), count);
            }
            due("clause of " + n, x.clause(), 0);
            due("patterns", x.patterns(), 32 - (32 >> n));
        }
        begin("a list of 0 to 4 literals");
        for (int i = 0; i < 5; i++) {
            x.atom(i, 6, i);
        }
        for (int i = 0; i < 4; i++) {
            x.literal(2 * i);
        }
        due("a fifth", x.literal(8), FULL);
        x.clause();
        due("only the four count", x.patterns(), 30);
    }

    private static void noneMeetsAClauseWithoutLiterals() {
        begin("none meets a clause without literals");
        due("possible before", x.possible(), true);
        due("clause", x.clause(), 0);
        due("possible", x.possible(), false);
        due("patterns", x.patterns(), 0);
        due("pattern", x.pattern(0), NONE);
        due("least", x.least(0, 1), NONE);
        x.atom(0, 1, 0);
        due("a later atom does not help", x.possible(), false);
        or(0, 1);
        due("a later clause does not help", x.possible(), false);
    }

    private static void atMost16Clauses() {
        begin("at most 16 clauses, numbered from 0 on");
        x.atom(0, 6, 0);
        for (int k = 0; k < 16; k++) {
            due("clause " + k, or(0, 1), k);
        }
        due("a seventeenth of no literals", x.clause(), FULL);
        due("a seventeenth by fact", x.fact(0), FULL);
        due("clauses", x.clauses(), 16);
        due("nothing is shut out", x.patterns(), 2);
        begin("at most 16 clauses, numbered from 0 on");
        x.atom(0, 6, 0);
        for (int k = 0; k < 16; k++) {
            due("fact " + k, x.fact(k == 15 ? 1 : 0), k);
        }
        due("the last one counts", x.possible(), false);
    }

    private static void goodIsToMeetAll() {
        begin("A GOOD meaning meets all clauses");
        for (int i = 0; i < 8; i++) {
            x.atom(i % 6, 6, i);
        }
        int all = x.patterns();
        due("with no clause all are good", all, 144);
        for (int i = 0; i < 8; i++) {
            x.fact(2 * i);
        }
        due("with each atom said to hold", x.pattern(0), 255);
        for (int i = 0; i < 7; i++) {
            or(2 * i, 15);
        }
        due("clauses that are met already", x.patterns(), 1);
        x.fact(15);
        due("the sixteenth", x.possible(), false);
        due("and without it", x.without(15), true);
    }

    private static void openingKeepsAll() {
        begin("opening one keeps all atoms and clauses as they are");
        x.atom(0, 1, -2);
        x.atom(1, 2, -3);
        x.fact(0);
        for (int n = 0; n < 4; n++) {
            x.open();
            due("atoms", x.atoms(), 2);
            due("clauses", x.clauses(), 1);
            due("least(1, 0)", x.least(1, 0), 2);
            due("patterns", x.patterns(), 2);
            due("implied", x.implied(0), true);
        }
    }

    private static void closingTakesAwayWhatWasAdded() {
        begin("closing it takes away those added since it was opened");
        for (int n = 0; n < 4; n++) {
            x.open();
            x.atom(n, 6, 5 - n);
            x.fact(2 * n);
            x.atom(6, n, 5 - n);
            x.scrap();
            x.literal(2 * n);
            x.clause();
        }
        for (int n = 3; n >= 0; n--) {
            due("atoms", x.atoms(), 2 * n + 2);
            due("clauses", x.clauses(), 2 * n + 2);
            due("the level's own", x.implied(2 * n), true);
            due("close", x.close(), n);
            due("the level's own is gone", x.least(6, n), ENDLESS);
        }
        due("atoms", x.atoms(), 0);
        due("clauses", x.clauses(), 0);
        due("patterns", x.patterns(), 1);
    }

    private static void closingMakesRoom() {
        begin("closing it takes away those added since it was opened");
        x.atom(0, 6, 0);
        x.fact(0);
        for (int round = 0; round < 3; round++) {
            x.open();
            for (int i = 1; i < 8; i++) {
                due("atom", x.atom(i % 6, 6, 2 * i + round), i);
            }
            due("a ninth atom", x.atom(0, 1, 0), FULL);
            for (int k = 1; k < 16; k++) {
                due("fact", x.fact(k), k);
            }
            due("a seventeenth clause", x.fact(0), FULL);
            due("close", x.close(), 0);
            due("patterns", x.patterns(), 1);
            due("least", x.least(6, 0), 0);
        }
    }

    private static void atMost4Levels() {
        begin("at most 4 are open");
        for (int n = 1; n <= 4; n++) {
            due("open", x.open(), n);
        }
        due("a fifth", x.open(), FULL);
        due("close", x.close(), 3);
        due("a fourth again", x.open(), 4);
        due("a fifth", x.open(), FULL);
        for (int n = 3; n >= 0; n--) {
            due("close", x.close(), n);
        }
        due("none is left", x.close(), NONE);
    }

    private static void patternsAreSumsOfPowers() {
        for (int i = 0; i < 8; i++) {
            begin("the sum of 2 to the power i over the atoms i that hold");
            for (int j = 0; j < 8; j++) {
                x.atom(j % 6, 6, j < 6 ? 0 : -1);
            }
            x.fact(2 * i);
            // Atoms 6 and 7 are stronger than 0 and 1, so these hold with them.
            int with = i < 6 ? 1 << i : (1 << i) + (1 << (i - 6));
            due("only atom " + i + " need hold", x.pattern(0), with);
            due("all hold", x.pattern(255), 255);
        }
        begin("the sum of 2 to the power i over the atoms i that hold");
        for (int j = 0; j < 8; j++) {
            x.atom(j % 6, 6, j);
        }
        due("none need hold", x.pattern(0), 0);
        due("all may hold", x.pattern(255), 255);
    }

    private static void noCallThrows() {
        sentence = "No call ever throws";
        TheorySolver[] states = {
            Scenes.fresh(), Scenes.midway(), Scenes.hopeless(), Scenes.hopelessWithoutAtoms(), Scenes.fullDraft(),
            Scenes.fullLevels(), Scenes.allFull(), Scenes.allFullAndHopeless()
        };
        for (int n = 0; n < states.length; n++) {
            x = states[n];
            for (int far : FAR) {
                boolean ends = true;
                try {
                    callAllWith(far);
                } catch (RuntimeException | Error thrown) {
                    ends = false;
                }
                due("state " + n + " with " + far, ends, true);
            }
        }
    }

    private static void callAllWith(int far) {
        due("atom", x.atom(far, 0, 0), BAD_ARG);
        due("atom", x.atom(0, far, 0), BAD_ARG);
        due("atom", x.atom(0, 1, far), BAD_ARG);
        due("atom", x.atom(far, far, far), BAD_ARG);
        due("literal", x.literal(far), BAD_ARG);
        due("fact", x.fact(far), BAD_ARG);
        due("implied", x.implied(far), false);
        due("equal", x.equal(far, far), false);
        due("equal", x.equal(far, 0), false);
        due("equal", x.equal(0, far), false);
        due("apart", x.apart(far, far), false);
        due("apart", x.apart(far, 0), false);
        due("apart", x.apart(0, far), false);
        due("least", x.least(far, far), BAD_ARG);
        due("least", x.least(far, 0), BAD_ARG);
        due("least", x.least(0, far), BAD_ARG);
        due("without", x.without(far), false);
        due("pattern", x.pattern(far), far < 0 ? x.pattern(0) : far > 255 ? NONE : x.pattern(far));
    }

    private static void newObject() {
        begin("No atom, no clause, no level open; the clause being made has no literal");
        due("atoms", x.atoms(), 0);
        due("clauses", x.clauses(), 0);
        due("no level to close", x.close(), NONE);
        due("no atom to speak of", x.literal(0), BAD_ARG);
        due("the clause being made", x.clause(), 0);
        due("it has no literal", x.possible(), false);
        begin("No atom, no clause, no level open; the clause being made has no literal");
        due("the first level", x.open(), 1);
        due("the first atom", x.atom(0, 1, 0), 0);
        due("the first literal", x.literal(0), 1);
        due("the first clause", x.clause(), 0);
    }

    private static void atomNumbers() {
        begin("atom: Otherwise its number");
        x.atom(0, 1, 0);
        x.atom(7, 0, 0);
        due("after a refused one", x.atom(0, 1, 0), 1);
        x.open();
        due("in a level", x.atom(0, 1, 0), 2);
        x.close();
        due("after the level", x.atom(0, 1, 0), 2);
    }

    private static void literalOfAnAtomThatIsNotThere() {
        for (int count = 0; count <= 8; count++) {
            sentence = "literal: l not 0 to 15, or of an atom that is not there";
            x = Scenes.withAtoms(count);
            for (int l = -2; l < 18; l++) {
                boolean there = l >= 0 && l < 2 * count;
                due("literal " + l + " of " + count + " atoms", x.literal(l), there ? 1 : BAD_ARG);
                x.scrap();
                due("fact " + l + " of " + count + " atoms", x.fact(l), there ? l : BAD_ARG);
            }
        }
    }

    private static void literalCounts() {
        begin("literal: it has 4 answers FULL. Otherwise the number of its literals");
        x.atom(0, 1, 0);
        for (int count = 1; count <= 4; count++) {
            due("literal", x.literal(count % 2), count);
        }
        due("a fifth", x.literal(0), FULL);
        due("a fifth that is not there", x.literal(2), BAD_ARG);
        due("a fifth once more", x.literal(1), FULL);
    }

    private static void literalOfAnAtomThatWasTakenAway() {
        begin("literal: of an atom that is not there");
        x.atom(0, 1, 0);
        x.open();
        x.atom(1, 2, 0);
        due("there", x.literal(3), 1);
        x.close();
        due("taken away", x.literal(2), BAD_ARG);
        due("taken away", x.literal(3), BAD_ARG);
        due("taken away", x.fact(2), BAD_ARG);
        due("taken away", x.implied(3), false);
        due("the last that is there", x.literal(1), 1);
    }

    private static void scrapOfNothing() {
        begin("scrap: has no literal from now on");
        x.scrap();
        due("clause", x.clause(), 0);
        due("of no literal", x.possible(), false);
    }

    private static void scrapOfFour() {
        for (int scrapped = 0; scrapped < 2; scrapped++) {
            begin("scrap: has no literal from now on");
            x.atom(0, 1, 0);
            x.atom(1, 2, 0);
            x.fact(2);
            x.open();
            for (int count = 1; count <= 4; count++) {
                x.literal(scrapped);
            }
            x.scrap();
            x.scrap();
            due("clauses stay", x.clauses(), 1);
            due("atoms stay", x.atoms(), 2);
            due("the first again", x.literal(1 - scrapped), 1);
            x.clause();
            due("the scrapped ones do not count", x.implied(1 - scrapped), true);
            due("levels stay", x.close(), 0);
        }
    }

    private static void clauseEmptiesTheDraft() {
        for (int added = 0; added < 2; added++) {
            begin("clause: the next one has no literal");
            x.atom(0, 1, 0);
            for (int count = 1; count <= 4; count++) {
                x.literal(added);
            }
            x.clause();
            due("the first of the next", x.literal(1 - added), 1);
            x.clause();
            due("the earlier ones are not of the next", x.possible(), false);
            begin("clause: the next one has no literal");
            x.atom(0, 1, 0);
            or(added);
            due("possible before", x.possible(), true);
            x.clause();
            due("a next one at once", x.possible(), false);
        }
    }

    private static void clauseNumbers() {
        begin("clause: FULL if there are 16. Otherwise its number");
        x.atom(0, 1, 0);
        for (int k = 0; k < 16; k++) {
            due("clause", k % 2 == 0 ? or(0) : x.fact(0), k);
        }
        x.literal(1);
        due("a seventeenth", x.clause(), FULL);
        due("its literal is still there", x.literal(1), 2);
        due("it was not added", x.possible(), true);
    }

    private static void factNumbers() {
        begin("fact: FULL as for clause. Otherwise its number");
        x.atom(0, 1, 0);
        for (int k = 0; k < 16; k++) {
            due("fact", x.fact(k == 0 ? 1 : k % 2), k);
        }
        due("a seventeenth", x.fact(1), FULL);
        due("a seventeenth that is not there: tested first", x.fact(2), BAD_ARG);
        due("a seventeenth out of range: tested first", x.fact(-1), BAD_ARG);
    }

    private static void factLeavesTheDraft() {
        for (int count = 0; count <= 4; count++) {
            begin("fact: The clause being made stays as it is");
            x.atom(0, 1, 0);
            x.atom(1, 2, 0);
            for (int n = 0; n < count; n++) {
                x.literal(2);
            }
            x.fact(0);
            due("literal", x.literal(3), count == 4 ? FULL : count + 1);
            due("clause", x.clause(), 1);
            due("what it leaves", x.patterns(), count == 0 || count == 4 ? 1 : 2);
            due("atom 1 holds", x.implied(2), count == 4);
            due("atom 1 does not hold", x.implied(3), count == 0);
        }
    }

    private static void openCounts() {
        begin("open: FULL if 4 are open. Otherwise the number of open levels");
        for (int n = 1; n <= 4; n++) {
            due("open", x.open(), n);
        }
        for (int n = 0; n < 3; n++) {
            due("one more", x.open(), FULL);
        }
        due("close", x.close(), 3);
        begin("open: FULL if 4 are open. Otherwise the number of open levels");
        x = Scenes.withAtoms(8);
        for (int k = 0; k < 16; k++) {
            x.fact(k);
        }
        due("with 8 atoms and 16 clauses", x.open(), 1);
        due("atoms", x.atoms(), 8);
        due("close", x.close(), 0);
        due("atoms", x.atoms(), 8);
        due("clauses", x.clauses(), 16);
    }

    private static void openLeavesTheDraft() {
        begin("open: keeps all as they are");
        x.atom(0, 1, 0);
        x.literal(1);
        x.literal(1);
        x.open();
        due("the clause being made", x.literal(1), 3);
        x.clause();
        due("with all its literals", x.implied(1), true);
        due("is of the level", x.close(), 0);
        due("clauses", x.clauses(), 0);
    }

    private static void closeCounts() {
        begin("close: NONE if none is open. Otherwise the number of open levels");
        due("none open", x.close(), NONE);
        x.open();
        due("one open", x.close(), 0);
        due("none open", x.close(), NONE);
        due("none open", x.close(), NONE);
        due("open", x.open(), 1);
    }

    private static void closeEmptiesTheDraft() {
        for (int count = 0; count <= 4; count++) {
            for (int dropped = 0; dropped < 2; dropped++) {
                begin("close: the clause being made has no literal afterwards");
                x.atom(0, 1, 0);
                for (int n = 0; n < count / 2; n++) {
                    x.literal(dropped);
                }
                x.open();
                for (int n = count / 2; n < count; n++) {
                    x.literal(dropped);
                }
                due("close", x.close(), 0);
                due("literal", x.literal(1 - dropped), 1);
                x.clause();
                due("only that one", x.implied(1 - dropped), true);
            }
        }
        begin("close: the clause being made has no literal afterwards");
        x.atom(0, 1, 0);
        x.open();
        x.literal(0);
        x.close();
        x.clause();
        due("a clause without literals", x.possible(), false);
    }

    private static void refusedCloseLeavesTheDraft() {
        begin("A refused call changes nothing");
        x.atom(0, 1, 0);
        x.literal(1);
        due("close", x.close(), NONE);
        x.clause();
        due("the literal is still there", x.implied(1), true);
        due("and nothing else went", x.atoms(), 1);
    }

    private static void levelsWithNothingInThem() {
        begin("closing it takes away those added since it was opened");
        x.open();
        x.open();
        x.atom(0, 1, 3);
        x.fact(0);
        x.open();
        x.open();
        due("the innermost is empty", x.close(), 3);
        due("clauses", x.clauses(), 1);
        due("the next is empty too", x.close(), 2);
        due("atoms", x.atoms(), 1);
        due("least", x.least(1, 0), -3);
        due("this one is not", x.close(), 1);
        due("atoms", x.atoms(), 0);
        due("clauses", x.clauses(), 0);
        due("the outermost", x.close(), 0);
    }

    private static void atomsFrom0To8() {
        for (int count = 0; count <= 8; count++) {
            sentence = "The number of atoms";
            x = Scenes.withAtoms(count);
            due("atoms", x.atoms(), count);
            x.open();
            x.atom(0, 1, 0);
            due("atoms in a level", x.atoms(), count == 8 ? 8 : count + 1);
            x.close();
            due("atoms after it", x.atoms(), count);
        }
    }

    private static void clausesFrom0To16() {
        for (int count = 0; count <= 16; count++) {
            begin("The number of clauses");
            x.atom(0, 1, 0);
            for (int k = 0; k < count; k++) {
                x.fact(0);
            }
            x.literal(0);
            due("clauses, one being made not counted", x.clauses(), count);
            x.open();
            x.clause();
            due("clauses in a level", x.clauses(), count == 16 ? 16 : count + 1);
            x.close();
            due("clauses after it", x.clauses(), count);
        }
    }

    private static void possibleWithNothing() {
        begin("possible: Whether there is a good meaning");
        due("no atom, no clause", x.possible(), true);
        x.literal(0);
        due("no atom, no clause", x.possible(), true);
        x.clause();
        due("no atom, a clause without literals", x.possible(), false);
    }

    /** A way round by four terms: its sum may be 0, and no less. */
    private static void possibleAtTheEdge() {
        for (int k = -20; k <= 20; k++) {
            begin("possible: Whether there is a good meaning");
            x.atom(0, 3, 9);
            x.atom(3, 5, -20);
            x.atom(5, 6, -2);
            x.atom(6, 0, k);
            for (int i = 0; i < 4; i++) {
                x.fact(2 * i);
            }
            due("a way round of " + (k - 13), x.possible(), k >= 13);
        }
    }

    private static void impliedAtTheEdge() {
        for (int k = -20; k <= 20; k++) {
            begin("implied: is so in every good meaning");
            x.atom(0, 1, 3);
            x.atom(1, 2, -4);
            x.atom(0, 2, k);
            x.fact(0);
            x.fact(2);
            due("a - c at most " + k, x.implied(4), k >= -1);
            due("a - c more than " + k, x.implied(5), false);
        }
    }

    private static void impliedWithoutGoodMeaning() {
        for (int count = 0; count <= 8; count++) {
            sentence = "implied: is so in every good meaning; false if l is not there";
            x = Scenes.withAtoms(count);
            x.clause();
            for (int l = -2; l < 18; l++) {
                due("implied " + l + " of " + count + " atoms", x.implied(l), l >= 0 && l < 2 * count);
            }
        }
    }

    private static void impliedOfAnAtomThatIsNotThere() {
        for (int count = 0; count <= 8; count++) {
            sentence = "implied: false if l is not 0 to 15 or of an atom that is not there";
            x = Scenes.withAtoms(count);
            for (int i = 0; i < count; i++) {
                x.fact(2 * i);
            }
            for (int l = -2; l < 18; l++) {
                due("implied " + l, x.implied(l), l >= 0 && l < 2 * count && l % 2 == 0);
            }
            for (int far : FAR) {
                due("implied " + far, x.implied(far), false);
            }
        }
    }

    private static void equalOfOneTerm() {
        begin("equal: the same value; false if t or u is not 0 to 6");
        for (int t = -2; t < 9; t++) {
            due("equal(" + t + ", " + t + ")", x.equal(t, t), t >= 0 && t <= 6);
        }
        x.clause();
        for (int t = -2; t < 9; t++) {
            due("equal(" + t + ", " + t + ") in none", x.equal(t, t), t >= 0 && t <= 6);
        }
    }

    private static void equalAtTheEdge() {
        begin("equal: in every good meaning the terms have the same value");
        x.atom(1, 4, 0);
        x.atom(4, 1, 0);
        x.atom(4, 1, 1);
        x.fact(0);
        x.open();
        x.fact(4);
        due("0 or 1 less", x.equal(1, 4), false);
        due("0 or 1 more", x.equal(4, 1), false);
        x.close();
        x.fact(2);
        due("not more and not less", x.equal(1, 4), true);
        due("turned round", x.equal(4, 1), true);
    }

    private static void equalWithoutGoodMeaning() {
        for (int t = -1; t < 8; t++) {
            for (int u = -1; u < 8; u++) {
                sentence = "equal: in every good meaning, with none";
                x = Scenes.hopeless();
                boolean terms = t >= 0 && t < 7 && u >= 0 && u < 7;
                due("equal(" + t + ", " + u + ")", x.equal(t, u), terms);
            }
        }
    }

    private static void apartOfOneTerm() {
        begin("apart: different values; false if t or u is not 0 to 6");
        for (int t = -2; t < 9; t++) {
            due("apart(" + t + ", " + t + ")", x.apart(t, t), false);
        }
        for (int t = -2; t < 9; t++) {
            due("apart(" + t + ", 3)", x.apart(t, 3), t >= 0 && t <= 6 && t != 3);
            due("apart(3, " + t + ")", x.apart(3, t), t >= 0 && t <= 6 && t != 3);
        }
    }

    private static void apartAtTheEdge() {
        begin("apart: in some good meaning the terms have different values");
        x.atom(2, 6, 0);
        x.atom(6, 2, 0);
        x.atom(6, 2, 1);
        x.fact(0);
        x.open();
        x.fact(4);
        due("c is -1 or 0", x.apart(2, 6), true);
        due("turned round", x.apart(6, 2), true);
        x.close();
        x.fact(2);
        due("c is 0", x.apart(2, 6), false);
        due("turned round", x.apart(6, 2), false);
    }

    private static void apartWithoutGoodMeaning() {
        for (int t = -1; t < 8; t++) {
            for (int u = -1; u < 8; u++) {
                sentence = "apart: in some good meaning, with none";
                x = Scenes.hopeless();
                due("apart(" + t + ", " + u + ")", x.apart(t, u), false);
            }
        }
    }

    private static void leastAtTheEdge() {
        for (int k = -20; k <= 20; k++) {
            begin("least: The least value of t less u in a good meaning");
            x.atom(5, 1, k);
            x.atom(5, 1, 20);
            or(0, 1);
            x.fact(2);
            due("b - f(c)", x.least(1, 5), -20);
            x.fact(0);
            due("b - f(c) if the atom holds", x.least(1, 5), -k);
            due("f(c) - b", x.least(5, 1), ENDLESS);
        }
    }

    private static void leastOfTheLongestWay() {
        int[][] ways = {{0, 1, 2, 3, 4, 5, 6}, {6, 5, 4, 3, 2, 1, 0}, {3, 0, 4, 6, 1, 5, 2}};
        for (int[] way : ways) {
            begin("least: The least value of t less u in a good meaning");
            for (int i = 0; i < 6; i++) {
                x.atom(way[i], way[i + 1], 20);
            }
            x.open();
            for (int i = 0; i < 6; i++) {
                x.fact(2 * i);
            }
            due("all hold", x.least(way[6], way[0]), -120);
            x.close();
            for (int i = 0; i < 6; i++) {
                x.fact(2 * i + 1);
            }
            due("none holds", x.least(way[0], way[6]), 126);
        }
    }

    private static void leastWithoutEnd() {
        begin("least: there is no least value answers ENDLESS");
        x.atom(0, 1, -20);
        x.atom(0, 1, 20);
        due("free", x.least(0, 1), ENDLESS);
        x.fact(2);
        due("a bound from above alone", x.least(0, 1), ENDLESS);
        x.open();
        or(1, 1);
        due("a bound from below", x.least(0, 1), -19);
        x.close();
        // Either way round one of the two is endless, so the least value is.
        x.atom(2, 6, 0);
        or(1, 4);
        due("a bound in some good meanings alone", x.least(0, 1), ENDLESS);
        x.fact(5);
        due("a bound in all", x.least(0, 1), -19);
    }

    private static void leastWithoutGoodMeaning() {
        for (int t = -1; t < 8; t++) {
            for (int u = -1; u < 8; u++) {
                begin("least: BAD_ARG; no good meaning answers NONE");
                x.clause();
                boolean bad = t < 0 || t > 6 || u < 0 || u > 6 || t == u;
                due("least(" + t + ", " + u + ")", x.least(t, u), bad ? BAD_ARG : NONE);
            }
        }
    }

    private static void patternFromBelow() {
        for (int count = 0; count <= 8; count++) {
            sentence = "pattern: not less than p, for p below 0";
            x = Scenes.withAtoms(count);
            for (int p : new int[] {LOWEST, LOWEST + 1, -65536, -512, -257, -256, -255, -2, -1, 0}) {
                due("pattern(" + p + ")", x.pattern(p), 0);
            }
            for (int i = 0; i < count; i++) {
                x.fact(2 * i);
            }
            for (int p : new int[] {LOWEST, -256, -1, 0}) {
                due("pattern(" + p + ") if all hold", x.pattern(p), (1 << count) - 1);
            }
        }
    }

    /** The atoms are bounds on one difference, so the patterns are 0, 128, 192, 224 and so on to 255. */
    private static void patternNotLessThan() {
        begin("pattern: The least pattern of a good meaning that is not less than p");
        for (int i = 0; i < 8; i++) {
            x.atom(2, 3, i);
        }
        int due = 0;
        for (int p = 0; p <= 255; p++) {
            if (p > due) {
                due = (due >> 1) + 128;
            }
            due("pattern(" + p + ")", x.pattern(p), due);
        }
        due("pattern(256)", x.pattern(256), NONE);
    }

    private static void patternFromBeyond() {
        for (int count = 0; count <= 8; count++) {
            sentence = "pattern: NONE if there is none";
            x = Scenes.withAtoms(count);
            int last = (1 << count) - 1;
            due("the last of " + count + " atoms", x.pattern(last), last);
            for (int p : new int[] {last + 1, last + 2, 2 * last + 2, 256, 512, 65536, HIGHEST - 1, HIGHEST}) {
                due("pattern(" + p + ") of " + count + " atoms", x.pattern(p), NONE);
            }
        }
    }

    private static void patternWithoutGoodMeaning() {
        for (int count = 0; count <= 8; count++) {
            sentence = "pattern: NONE if there is none";
            x = Scenes.withAtoms(count);
            x.clause();
            for (int p : new int[] {LOWEST, -1, 0, 1, (1 << count) - 1, 1 << count, HIGHEST}) {
                due("pattern(" + p + ") of " + count + " atoms", x.pattern(p), NONE);
            }
        }
    }

    private static void patternsWithNothing() {
        begin("patterns: The number of different patterns of good meanings");
        due("no atom", x.patterns(), 1);
        x.clause();
        due("no atom, no good meaning", x.patterns(), 0);
        sentence = "patterns: The number of different patterns of good meanings";
        x = Scenes.allFullAndHopeless();
        due("all full, no good meaning", x.patterns(), 0);
    }

    /** The first six atoms are free of each other; the last two part values of a and b in three. */
    private static void patternsWithAll() {
        int[] most = {1, 2, 4, 8, 16, 32, 64, 96, 144};
        for (int count = 0; count <= 8; count++) {
            sentence = "patterns: The number of different patterns of good meanings";
            x = Scenes.withAtoms(count);
            due("of " + count + " atoms", x.patterns(), most[count]);
        }
        begin("patterns: The number of different patterns of good meanings");
        for (int i = 0; i < 8; i++) {
            x.atom(0, 6, 20);
            due("of " + (i + 1) + " times the same atom", x.patterns(), 2);
        }
    }

    private static void withoutClauseOutOfRange() {
        for (int count = 0; count <= 16; count++) {
            begin("without: false if there is no clause k");
            x.atom(0, 1, 0);
            for (int k = 0; k < count; k++) {
                x.fact(0);
            }
            for (int k = -2; k < 19; k++) {
                due("without(" + k + ") of " + count, x.without(k), k >= 0 && k < count);
            }
            for (int far : FAR) {
                due("without(" + far + ") of " + count, x.without(far), false);
            }
        }
    }

    private static void withoutTheOnlyClause() {
        begin("without: Whether there would be a good meaning without clause k");
        x.clause();
        due("the only one, of no literals", x.without(0), true);
        due("it is still there", x.possible(), false);
        x.clause();
        due("one of two of no literals", x.without(0), false);
        due("the other", x.without(1), false);
    }

    private static void withoutTheLastOf16() {
        begin("without: the others staying");
        x.atom(0, 1, 0);
        for (int k = 0; k < 15; k++) {
            x.fact(0);
        }
        x.fact(1);
        for (int k = 0; k < 16; k++) {
            due("without(" + k + ")", x.without(k), k == 15);
        }
        due("clauses", x.clauses(), 16);
    }

    private static void undecidedWithNothing() {
        begin("undecided: How many of the atoms");
        due("no atom", x.undecided(), 0);
        x.clause();
        due("no atom, no good meaning", x.undecided(), 0);
    }

    private static void undecidedOfAll() {
        for (int count = 0; count <= 8; count++) {
            sentence = "undecided: hold in some good meaning and do not hold in some other one";
            x = Scenes.withAtoms(count);
            due("of " + count + " atoms", x.undecided(), count);
            for (int i = count - 1; i >= 0; i--) {
                x.fact(2 * i + 1);
            }
            due("none of " + count + " that do not hold", x.undecided(), 0);
        }
        begin("undecided: hold in some good meaning and do not hold in some other one");
        x.atom(0, 1, 0);
        x.atom(1, 0, 0);
        x.atom(1, 0, -1);
        x.fact(0);
        due("a <= b", x.undecided(), 1);
        x.fact(2);
        due("a = b", x.undecided(), 0);
    }

    private static void undecidedWithoutGoodMeaning() {
        for (int count = 0; count <= 8; count++) {
            sentence = "undecided: in some good meaning, with none";
            x = Scenes.withAtoms(count);
            x.clause();
            due("of " + count + " atoms", x.undecided(), 0);
        }
    }

    private static void spareWithNothing() {
        begin("spare: The number of clauses k");
        due("no clause", x.spare(), 0);
        x.atom(0, 1, 0);
        due("an atom, no clause", x.spare(), 0);
        x.literal(0);
        x.literal(1);
        due("one being made", x.spare(), 0);
    }

    private static void spareOfAll16() {
        begin("spare: each taken away alone, the others staying");
        x.atom(0, 1, 0);
        x.fact(0);
        due("one", x.spare(), 0);
        for (int k = 1; k < 16; k++) {
            x.fact(0);
            due((k + 1) + " alike", x.spare(), k + 1);
        }
        due("clauses", x.clauses(), 16);
        begin("spare: each taken away alone, the others staying");
        for (int i = 0; i < 8; i++) {
            x.atom(i % 6, 6, i);
        }
        for (int i = 0; i < 16; i++) {
            or(i, i ^ 1);
        }
        due("16 that every meaning meets", x.spare(), 16);
    }

    private static void spareWithoutGoodMeaning() {
        begin("spare: the good meanings would be the same without clause k, with none");
        x.clause();
        due("the only one shuts out all", x.spare(), 0);
        x.clause();
        due("two that each shut out all", x.spare(), 2);
        begin("spare: the good meanings would be the same without clause k, with none");
        x.atom(0, 1, 0);
        x.fact(0);
        x.fact(1);
        due("two that shut out all together", x.spare(), 0);
        x.fact(1);
        due("and one of them twice", x.spare(), 2);
        x.clause();
        due("beside one that shuts out all", x.spare(), 4);
    }
}
