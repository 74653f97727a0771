/** Counts the answers that are not the ones that are due. */
final class Check {
    private int wrong;
    private int seen;

    void due(String call, int got, int want) {
        seen++;
        if (got != want) {
            wrong++;
            System.out.println(call + " answered " + got + ", due is " + want);
        }
    }

    void due(String call, boolean got, boolean want) {
        due(call, got ? 1 : 0, want ? 1 : 0);
    }

    boolean failed() {
        return wrong > 0;
    }

    void end() {
        System.out.println(wrong + " of " + seen + " answers are not as due");
        if (wrong > 0 || seen == 0) {
            System.exit(1);
        }
    }
}
