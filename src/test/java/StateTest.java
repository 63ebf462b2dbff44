import java.util.Arrays;

/** What an object answers is told by its weights alone: not by its past, by questions or by refused calls. */
public final class StateTest {
    private static final int[] WATCHED_CODES = {0, 1, 2401, 2744, 3156, 8379, 8492, 11077, 13948, 16806};
    private static final int[] STRANGE = {
        Integer.MIN_VALUE, -16807, -101, -7, -1, 5, 7, 13, 21, 512, 16807, Integer.MAX_VALUE,
    };

    public static void main(String[] args) {
        pastDoesNotMatter();
        refusedCallsChangeNothing();
        questionsChangeNothing();
        Check.finish();
    }

    private static void pastDoesNotMatter() {
        int[][] history = {{6, 6, -5, -5, -5}, {1, 1, 1, 1, 1}, {0, 0, 0, 0, 0}, {3, 2, -1, -5, 0}, {1, -1, 1, -1, 6}};
        HilbertBasis old = new HilbertBasis();
        for (int[] weights : history) {
            for (int i = 0; i < 5; i++) {
                old.set(i, weights[i]);
            }
            same("set to " + Arrays.toString(weights), picture(old), picture(Check.weighing(weights)));
        }
        old = Check.weighing(6, 6, -5, -5, -5);
        old.sow(12, 7);
        HilbertBasis fresh = new HilbertBasis();
        fresh.sow(12, 7);
        same("sow(12, 7)", picture(old), picture(fresh));
    }

    private static void refusedCallsChangeNothing() {
        HilbertBasis basis = Check.weighing(2, -3, 1, 0, 6);
        int[] before = picture(basis);
        for (int value : STRANGE) {
            basis.set(value, 1);
            if (value < -6 || value > 6) {
                basis.set(1, value);
            }
            basis.sow(value < 0 || value > 12 ? value : -1, 3);
            basis.sow(3, value < 0 || value > 12 ? value : -1);
        }
        same("refused calls", picture(basis), before);
    }

    private static void questionsChangeNothing() {
        HilbertBasis basis = Check.weighing(2, -3, 1, 0, 6);
        int[] before = picture(basis);
        for (int value : STRANGE) {
            ask(basis, value);
        }
        for (int value = 0; value < 5; value++) {
            ask(basis, value);
        }
        same("questions", picture(basis), before);
    }

    private static void ask(HilbertBasis basis, int value) {
        basis.weight(value);
        basis.isBalance(value);
        basis.isLeast(value);
        basis.code(value);
        basis.using(value);
        basis.balances(value);
        basis.fewest(value);
        basis.ways(value);
        basis.inside(value);
    }

    /** What the object answers to a good many questions: few enough for five pictures in 512 calls. */
    private static int[] picture(HilbertBasis basis) {
        int[] answers = new int[80];
        int at = 0;
        answers[at++] = basis.least();
        answers[at++] = basis.longest();
        answers[at++] = basis.small();
        for (int i = 0; i < 5; i++) {
            answers[at++] = basis.weight(i);
            answers[at++] = basis.using(i);
            answers[at++] = basis.balances(4 * i + 2);
            answers[at++] = basis.code(2 * i);
        }
        for (int code : WATCHED_CODES) {
            answers[at++] = basis.isBalance(code);
            answers[at++] = basis.isLeast(code);
            answers[at++] = basis.fewest(code);
            answers[at++] = basis.ways(code);
            answers[at++] = basis.inside(code);
        }
        return answers;
    }

    private static void same(String cause, int[] got, int[] want) {
        Check.holds(cause + " leaves " + Arrays.toString(got) + ", due is " + Arrays.toString(want),
            Arrays.equals(got, want));
    }
}
