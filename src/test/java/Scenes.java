/** Objects in states that stand at an edge, each made anew by some fifty calls or fewer. */
final class Scenes {
    private Scenes() {
    }

    static TheorySolver fresh() {
        return new TheorySolver();
    }

    /** Three atoms, two clauses, two levels open, and two literals in the clause being made. */
    static TheorySolver midway() {
        TheorySolver x = new TheorySolver();
        x.atom(0, 1, 0);
        x.atom(1, 0, 0);
        x.fact(0);
        x.open();
        x.atom(3, 4, -1);
        x.literal(2);
        x.literal(5);
        x.clause();
        x.open();
        x.literal(3);
        x.literal(4);
        return x;
    }

    /** As midway, but no meaning is good. */
    static TheorySolver hopeless() {
        TheorySolver x = midway();
        x.fact(1);
        return x;
    }

    /** No atom, and one clause, which has no literals. */
    static TheorySolver hopelessWithoutAtoms() {
        TheorySolver x = new TheorySolver();
        x.clause();
        return x;
    }

    static TheorySolver withAtoms(int count) {
        TheorySolver x = new TheorySolver();
        for (int i = 0; i < count; i++) {
            x.atom(i % 6, 6, i);
        }
        return x;
    }

    /** Four literals in the clause being made, of the two atoms that are there. */
    static TheorySolver fullDraft() {
        TheorySolver x = withAtoms(2);
        x.literal(0);
        x.literal(2);
        x.literal(2);
        x.literal(0);
        return x;
    }

    /** Sixteen clauses, two of them in a level, and as many literals in the clause being made as asked. */
    static TheorySolver fullClauses(int literals) {
        TheorySolver x = withAtoms(3);
        for (int k = 0; k < 14; k++) {
            x.fact(k % 2 * 2);
        }
        x.open();
        x.fact(5);
        x.fact(5);
        for (int n = 0; n < literals; n++) {
            x.literal(n % 2);
        }
        return x;
    }

    /** Four levels, each with an atom and a clause, and a literal in the clause being made. */
    static TheorySolver fullLevels() {
        TheorySolver x = new TheorySolver();
        for (int n = 0; n < 4; n++) {
            x.open();
            x.atom(n, n + 1, -n);
            x.fact(2 * n);
        }
        x.literal(1);
        return x;
    }

    /** Eight atoms, sixteen clauses, four levels, four literals in the clause being made. */
    static TheorySolver allFull() {
        TheorySolver x = fullButForOneClause();
        x.fact(12);
        x.literal(1);
        x.literal(3);
        x.literal(5);
        x.literal(15);
        return x;
    }

    /** As allFull, but no meaning is good. */
    static TheorySolver allFullAndHopeless() {
        TheorySolver x = fullButForOneClause();
        x.fact(1);
        x.literal(0);
        x.literal(2);
        x.literal(4);
        x.literal(14);
        return x;
    }

    private static TheorySolver fullButForOneClause() {
        TheorySolver x = new TheorySolver();
        for (int n = 0; n < 4; n++) {
            x.atom(n, 6, n);
            x.atom(6, n, 20);
            x.fact(4 * n);
            x.fact(4 * n + 2);
            x.open();
        }
        for (int k = 8; k < 15; k++) {
            x.fact(2 * (k % 4));
        }
        return x;
    }
}
