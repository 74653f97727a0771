public final class Example {
    public static void main(String[] args) {
        TheorySolver s = new TheorySolver();
        s.atom(0, 1, 0);     // atom 0: a <= b
        s.atom(1, 0, 0);     // atom 1: b <= a
        s.atom(3, 4, -1);    // atom 2: f(a) < f(b)
        s.fact(0);           // clause 0: a <= b
        s.fact(4);           // clause 1: f(a) < f(b)
        System.out.println("possible: " + s.possible());
        // If b <= a too, a and b would be the same, and so would f(a) and f(b).
        System.out.println("b > a follows: " + s.implied(3));
        System.out.println("least b - a: " + s.least(1, 0));
        System.out.println("no least a - b: " + (s.least(0, 1) == TheorySolver.ENDLESS));
        s.open();            // what is added from here on is taken away by close()
        s.literal(2);
        s.literal(5);
        s.clause();          // clause 2: b <= a, or not f(a) < f(b)
        System.out.println("possible with clause 2: " + s.possible());
        System.out.println("possible without it: " + s.without(2));
        s.close();
        System.out.println("possible after close: " + s.possible());
        System.out.println("an atom of one term alone is refused: " + (s.atom(1, 1, 0) == TheorySolver.BAD_ARG));
    }
}
