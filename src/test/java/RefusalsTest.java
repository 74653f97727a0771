import java.util.ArrayList;
import java.util.List;
import java.util.function.Supplier;
import java.util.function.ToIntFunction;

/**
 * Every call that the document refuses, at its edges, one beyond them and at the ends of int: that it
 * answers the code named, in the order of tests given, and that all other calls answer as before.
 */
public final class RefusalsTest {
    private static final int BAD_ARG = -1000;
    private static final int FULL = -2000;
    private static final int NONE = -3000;
    private static final int ENDLESS = -4000;
    private static final int FALSE = 0;
    private static final int LOWEST = Integer.MIN_VALUE;
    private static final int HIGHEST = Integer.MAX_VALUE;

    /** 7 * 613566757 wraps around to 3, so as an index it would look like a term's. */
    private static final int[] NOT_TERMS = {-1, 7, 8, LOWEST, HIGHEST, 613566757, -613566757};
    private static final int[] NOT_OFFSETS = {-21, 21, -22, 22, LOWEST, HIGHEST, LOWEST + 1, HIGHEST - 1};
    /** As shifts, 64 and -64 wrap around to 0. */
    private static final int[] NEVER_LITERALS = {-1, -2, 16, 17, 64, -64, LOWEST, HIGHEST, LOWEST + 1, HIGHEST - 1};
    private static final int[] NEVER_CLAUSES = {-1, 16, 17, LOWEST, HIGHEST, LOWEST + 1, HIGHEST - 1};

    private static final Check CHECK = new Check();
    private static final List<List<ToIntFunction<TheorySolver>>> QUESTIONS = List.of(
        generalQuestions(), termQuestions(), patternQuestions(0, 128), patternQuestions(128, 256));
    private static final List<List<ToIntFunction<TheorySolver>>> CONTINUATIONS = List.of(
        fillTheDraft(), addTheDraft(), scrapTheDraft(), addAtoms(), addFacts(), openLevels(), closeLevels());

    private static String sentence;
    private static Supplier<TheorySolver> scene;

    public static void main(String[] args) {
        atomWithBadArguments();
        atomWithEightThere();
        literalOutOfRange();
        literalWithFourThere();
        clauseWithSixteenThere();
        factOutOfRange();
        factWithSixteenThere();
        openWithFourOpen();
        closeWithNoneOpen();
        impliedOutOfRange();
        equalAndApartOutOfRange();
        leastWithBadArguments();
        leastWithoutGoodMeaning();
        leastWithoutEnd();
        patternBeyondTheLast();
        withoutOutOfRange();
        CHECK.end();
    }

    private static void atomWithBadArguments() {
        sentence = "promise 2, BAD_ARG";
        for (Supplier<TheorySolver> state : states(Scenes::fresh, Scenes::midway, Scenes::allFull)) {
            scene = state;
            for (int bad : NOT_TERMS) {
                refused("atom(" + bad + ", 0, 0)", x -> x.atom(bad, 0, 0), BAD_ARG);
                refused("atom(0, " + bad + ", 0)", x -> x.atom(0, bad, 0), BAD_ARG);
                refused("atom(" + bad + ", " + bad + ", 0)", x -> x.atom(bad, bad, 0), BAD_ARG);
            }
            for (int t = 0; t < 7; t++) {
                int same = t;
                refused("atom(" + t + ", " + t + ", 0)", x -> x.atom(same, same, 0), BAD_ARG);
            }
            for (int bad : NOT_OFFSETS) {
                refused("atom(0, 6, " + bad + ")", x -> x.atom(0, 6, bad), BAD_ARG);
                refused("atom(6, 0, " + bad + ")", x -> x.atom(6, 0, bad), BAD_ARG);
            }
        }
    }

    private static void atomWithEightThere() {
        sentence = "promise 2, FULL";
        for (Supplier<TheorySolver> state : states(Scenes::allFull, Scenes::allFullAndHopeless)) {
            scene = state;
            refused("atom(0, 6, -20)", x -> x.atom(0, 6, -20), FULL);
            refused("atom(6, 0, 20)", x -> x.atom(6, 0, 20), FULL);
            refused("atom(4, 5, 0)", x -> x.atom(4, 5, 0), FULL);
        }
    }

    private static void literalOutOfRange() {
        sentence = "promise 3, BAD_ARG";
        for (Supplier<TheorySolver> state : states(
                Scenes::fresh, Scenes::midway, Scenes::fullDraft, Scenes::allFull)) {
            scene = state;
            for (int bad : badLiterals()) {
                refused("literal(" + bad + ")", x -> x.literal(bad), BAD_ARG);
            }
        }
    }

    private static void literalWithFourThere() {
        sentence = "promise 3, FULL";
        for (Supplier<TheorySolver> state : states(Scenes::fullDraft, Scenes::allFull)) {
            scene = state;
            int last = 2 * state.get().atoms() - 1;
            refused("literal(0)", x -> x.literal(0), FULL);
            refused("literal(1)", x -> x.literal(1), FULL);
            refused("literal(" + last + ")", x -> x.literal(last), FULL);
        }
    }

    private static void clauseWithSixteenThere() {
        sentence = "promise 5, FULL";
        for (int literals = 0; literals <= 4; literals++) {
            int count = literals;
            scene = () -> Scenes.fullClauses(count);
            refused("clause() of " + count + " literals", TheorySolver::clause, FULL);
        }
        scene = Scenes::allFull;
        refused("clause()", TheorySolver::clause, FULL);
    }

    private static void factOutOfRange() {
        sentence = "promise 6, BAD_ARG";
        for (Supplier<TheorySolver> state : states(
                Scenes::fresh, Scenes::midway, () -> Scenes.fullClauses(2), Scenes::allFull)) {
            scene = state;
            for (int bad : badLiterals()) {
                refused("fact(" + bad + ")", x -> x.fact(bad), BAD_ARG);
            }
        }
    }

    private static void factWithSixteenThere() {
        sentence = "promise 6, FULL";
        for (Supplier<TheorySolver> state : states(() -> Scenes.fullClauses(3), Scenes::allFull)) {
            scene = state;
            int last = 2 * state.get().atoms() - 1;
            refused("fact(0)", x -> x.fact(0), FULL);
            refused("fact(1)", x -> x.fact(1), FULL);
            refused("fact(" + last + ")", x -> x.fact(last), FULL);
        }
    }

    private static void openWithFourOpen() {
        sentence = "promise 7, FULL";
        for (Supplier<TheorySolver> state : states(Scenes::fullLevels, Scenes::allFull)) {
            scene = state;
            refused("open()", TheorySolver::open, FULL);
        }
    }

    private static void closeWithNoneOpen() {
        sentence = "promise 8, NONE";
        for (Supplier<TheorySolver> state : states(
                Scenes::fresh, Scenes::fullDraft, Scenes::hopelessWithoutAtoms, () -> Scenes.withAtoms(4))) {
            scene = state;
            refused("close()", TheorySolver::close, NONE);
        }
    }

    private static void impliedOutOfRange() {
        sentence = "promise 12, false";
        for (Supplier<TheorySolver> state : states(
                Scenes::fresh, Scenes::hopelessWithoutAtoms, Scenes::midway, Scenes::hopeless,
                Scenes::allFullAndHopeless)) {
            scene = state;
            for (int bad : badLiterals()) {
                refused("implied(" + bad + ")", x -> x.implied(bad) ? 1 : 0, FALSE);
            }
        }
    }

    private static void equalAndApartOutOfRange() {
        for (Supplier<TheorySolver> state : states(Scenes::fresh, Scenes::midway, Scenes::hopeless)) {
            scene = state;
            for (int bad : NOT_TERMS) {
                sentence = "promise 13, false";
                refused("equal(" + bad + ", 6)", x -> x.equal(bad, 6) ? 1 : 0, FALSE);
                refused("equal(6, " + bad + ")", x -> x.equal(6, bad) ? 1 : 0, FALSE);
                refused("equal(" + bad + ", " + bad + ")", x -> x.equal(bad, bad) ? 1 : 0, FALSE);
                sentence = "promise 14, false";
                refused("apart(" + bad + ", 6)", x -> x.apart(bad, 6) ? 1 : 0, FALSE);
                refused("apart(6, " + bad + ")", x -> x.apart(6, bad) ? 1 : 0, FALSE);
                refused("apart(" + bad + ", 7)", x -> x.apart(bad, 7) ? 1 : 0, FALSE);
            }
        }
    }

    private static void leastWithBadArguments() {
        sentence = "promise 15, BAD_ARG";
        for (Supplier<TheorySolver> state : states(
                Scenes::fresh, Scenes::midway, Scenes::hopeless, Scenes::hopelessWithoutAtoms)) {
            scene = state;
            for (int bad : NOT_TERMS) {
                refused("least(" + bad + ", 0)", x -> x.least(bad, 0), BAD_ARG);
                refused("least(0, " + bad + ")", x -> x.least(0, bad), BAD_ARG);
                refused("least(" + bad + ", " + bad + ")", x -> x.least(bad, bad), BAD_ARG);
            }
            for (int t = 0; t < 7; t++) {
                int same = t;
                refused("least(" + t + ", " + t + ")", x -> x.least(same, same), BAD_ARG);
            }
        }
    }

    /** In these states no difference has a bound either, so NONE comes before ENDLESS. */
    private static void leastWithoutGoodMeaning() {
        sentence = "promise 15, NONE";
        for (Supplier<TheorySolver> state : states(
                Scenes::hopelessWithoutAtoms, Scenes::hopeless, Scenes::allFullAndHopeless)) {
            scene = state;
            for (int t = 0; t < 7; t++) {
                int left = t;
                int right = (t + 1) % 7;
                refused("least(" + left + ", " + right + ")", x -> x.least(left, right), NONE);
                refused("least(" + right + ", " + left + ")", x -> x.least(right, left), NONE);
            }
        }
    }

    private static void leastWithoutEnd() {
        sentence = "promise 15, ENDLESS";
        scene = Scenes::fresh;
        for (int t = 0; t < 7; t++) {
            int left = t;
            int right = (t + 6) % 7;
            refused("least(" + left + ", " + right + ")", x -> x.least(left, right), ENDLESS);
        }
        scene = Scenes::midway;
        refused("least(0, 1)", x -> x.least(0, 1), ENDLESS);
        scene = Scenes::allFull;
        refused("least(4, 6)", x -> x.least(4, 6), ENDLESS);
    }

    private static void patternBeyondTheLast() {
        sentence = "promise 16, NONE";
        for (Supplier<TheorySolver> state : states(
                Scenes::fresh, Scenes::midway, Scenes::hopeless, Scenes::hopelessWithoutAtoms, Scenes::allFull)) {
            scene = state;
            int beyond = 1 << state.get().atoms();
            for (int p : new int[] {beyond, beyond + 1, 256, 257, 511, 512, HIGHEST - 1, HIGHEST}) {
                refused("pattern(" + p + ")", x -> x.pattern(p), NONE);
            }
        }
        for (Supplier<TheorySolver> state : states(Scenes::hopeless, Scenes::hopelessWithoutAtoms)) {
            scene = state;
            for (int p : new int[] {LOWEST, LOWEST + 1, -1, 0, 1}) {
                refused("pattern(" + p + ")", x -> x.pattern(p), NONE);
            }
        }
    }

    private static void withoutOutOfRange() {
        sentence = "promise 18, false";
        for (Supplier<TheorySolver> state : states(
                Scenes::fresh, Scenes::midway, Scenes::hopelessWithoutAtoms, Scenes::fullDraft, Scenes::allFull)) {
            scene = state;
            int beyond = state.get().clauses();
            List<Integer> bad = listOf(NEVER_CLAUSES);
            bad.add(beyond);
            bad.add(beyond + 1);
            for (int k : bad) {
                refused("without(" + k + ")", x -> x.without(k) ? 1 : 0, FALSE);
            }
        }
    }

    @SafeVarargs
    @SuppressWarnings("varargs")
    private static List<Supplier<TheorySolver>> states(Supplier<TheorySolver>... some) {
        return List.of(some);
    }

    private static List<Integer> listOf(int[] numbers) {
        List<Integer> list = new ArrayList<>();
        for (int number : numbers) {
            list.add(number);
        }
        return list;
    }

    /** Those that are never literals, and those of the atoms that are not there. */
    private static List<Integer> badLiterals() {
        List<Integer> bad = listOf(NEVER_LITERALS);
        for (int l = 2 * scene.get().atoms(); l < 16; l++) {
            bad.add(l);
        }
        return bad;
    }

    private static void refused(String name, ToIntFunction<TheorySolver> call, int code) {
        String told = sentence + ": " + name;
        for (List<ToIntFunction<TheorySolver>> questions : QUESTIONS) {
            TheorySolver x = scene.get();
            List<Integer> before = answers(questions, x);
            CHECK.due(told, call.applyAsInt(x), code);
            CHECK.due(told + " leaves the answers as they were", answers(questions, x).equals(before), true);
        }
        for (List<ToIntFunction<TheorySolver>> continuation : CONTINUATIONS) {
            TheorySolver x = scene.get();
            List<Integer> due = answers(continuation, scene.get());
            CHECK.due(told, call.applyAsInt(x), code);
            CHECK.due(told + " leaves later calls as they would be", answers(continuation, x).equals(due), true);
        }
    }

    private static List<Integer> answers(List<ToIntFunction<TheorySolver>> calls, TheorySolver x) {
        List<Integer> answers = new ArrayList<>();
        for (ToIntFunction<TheorySolver> call : calls) {
            answers.add(call.applyAsInt(x));
        }
        return answers;
    }

    private static List<ToIntFunction<TheorySolver>> generalQuestions() {
        List<ToIntFunction<TheorySolver>> calls = new ArrayList<>();
        calls.add(TheorySolver::atoms);
        calls.add(TheorySolver::clauses);
        calls.add(x -> x.possible() ? 1 : 0);
        calls.add(TheorySolver::patterns);
        calls.add(TheorySolver::undecided);
        calls.add(TheorySolver::spare);
        for (int n = 0; n < 16; n++) {
            int number = n;
            calls.add(x -> x.implied(number) ? 1 : 0);
            calls.add(x -> x.without(number) ? 1 : 0);
        }
        return calls;
    }

    private static List<ToIntFunction<TheorySolver>> termQuestions() {
        List<ToIntFunction<TheorySolver>> calls = new ArrayList<>();
        for (int t = 0; t < 7; t++) {
            for (int u = 0; u < 7; u++) {
                int left = t;
                int right = u;
                calls.add(x -> x.least(left, right));
                calls.add(x -> x.equal(left, right) ? 1 : 0);
                calls.add(x -> x.apart(left, right) ? 1 : 0);
            }
        }
        return calls;
    }

    private static List<ToIntFunction<TheorySolver>> patternQuestions(int from, int to) {
        List<ToIntFunction<TheorySolver>> calls = new ArrayList<>();
        for (int p = from; p < to; p++) {
            int least = p;
            calls.add(x -> x.pattern(least));
        }
        return calls;
    }

    private static List<ToIntFunction<TheorySolver>> fillTheDraft() {
        List<ToIntFunction<TheorySolver>> calls = new ArrayList<>();
        for (int n = 0; n < 5; n++) {
            calls.add(x -> x.literal(0));
        }
        return calls;
    }

    private static List<ToIntFunction<TheorySolver>> addTheDraft() {
        List<ToIntFunction<TheorySolver>> calls = new ArrayList<>();
        calls.add(TheorySolver::clause);
        calls.addAll(generalQuestions());
        calls.addAll(patternQuestions(0, 256));
        return calls;
    }

    private static List<ToIntFunction<TheorySolver>> scrapTheDraft() {
        List<ToIntFunction<TheorySolver>> calls = new ArrayList<>();
        calls.add(x -> {
            x.scrap();
            return 0;
        });
        calls.add(x -> x.literal(1));
        calls.add(TheorySolver::clause);
        calls.addAll(generalQuestions());
        return calls;
    }

    private static List<ToIntFunction<TheorySolver>> addAtoms() {
        List<ToIntFunction<TheorySolver>> calls = new ArrayList<>();
        for (int n = 0; n < 9; n++) {
            int offset = n - 4;
            calls.add(x -> x.atom(0, 4, offset));
        }
        calls.addAll(generalQuestions());
        calls.addAll(patternQuestions(0, 256));
        return calls;
    }

    private static List<ToIntFunction<TheorySolver>> addFacts() {
        List<ToIntFunction<TheorySolver>> calls = new ArrayList<>();
        for (int n = 0; n < 17; n++) {
            calls.add(x -> x.fact(1));
        }
        calls.addAll(generalQuestions());
        return calls;
    }

    private static List<ToIntFunction<TheorySolver>> openLevels() {
        List<ToIntFunction<TheorySolver>> calls = new ArrayList<>();
        for (int n = 0; n < 5; n++) {
            calls.add(TheorySolver::open);
        }
        calls.addAll(closeLevels());
        return calls;
    }

    private static List<ToIntFunction<TheorySolver>> closeLevels() {
        List<ToIntFunction<TheorySolver>> calls = new ArrayList<>();
        for (int n = 0; n < 5; n++) {
            calls.add(TheorySolver::close);
            calls.addAll(generalQuestions());
        }
        calls.addAll(fillTheDraft());
        return calls;
    }
}
