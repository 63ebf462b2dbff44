/** Counts and prints the answers that are not the ones due. */
final class Check {
    private static int wrong = 0;

    private Check() {
    }

    static void due(String call, long got, long want) {
        if (got != want) {
            wrong++;
            System.out.println(call + " answered " + got + ", due is " + want);
        }
    }

    static void holds(String rule, boolean kept) {
        if (!kept) {
            wrong++;
            System.out.println("not kept: " + rule);
        }
    }

    static HilbertBasis weighing(int... weights) {
        HilbertBasis basis = new HilbertBasis();
        for (int i = 0; i < weights.length; i++) {
            basis.set(i, weights[i]);
        }
        return basis;
    }

    static int row(int x0, int x1, int x2, int x3, int x4) {
        return 2401 * x0 + 343 * x1 + 49 * x2 + 7 * x3 + x4;
    }

    static void finish() {
        System.out.println(wrong == 0 ? "all answers are as due" : wrong + " answers are not as due");
        if (wrong != 0) {
            System.exit(1);
        }
    }
}
