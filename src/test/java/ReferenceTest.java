/** Holds the class against Reference: for all that sow can make, and for chosen weights at every code. */
public final class ReferenceTest {
    private static final int[][] CHOSEN = {
        {0, 0, 0, 0, 0},
        {1, 1, -1, -1, 0},
        {1, 2, 3, -1, -2},
        {6, 6, -5, -5, -5},
        {-6, 5, -4, 3, -2},
        {6, 0, -6, 0, 4},
        {5, 5, 5, 5, -6},
        {1, 2, 3, 4, 6},
    };
    // Each code takes five calls, and an object is good for 512.
    private static final int CODES_AN_OBJECT = 100;
    private static final int SAMPLES = 40;

    public static void main(String[] args) {
        for (int seed = 0; seed <= 12; seed++) {
            for (int bend = 0; bend <= 12; bend++) {
                compareSown(seed, bend);
            }
        }
        for (int[] weights : CHOSEN) {
            compareEveryCode(weights);
        }
        Check.finish();
    }

    private static void compareSown(int seed, int bend) {
        int[] weights = new int[5];
        int sum = 0;
        for (int i = 0; i < 5; i++) {
            weights[i] = Math.floorMod(seed + 5 * i + bend * i * i, 13) - 6;
            sum += weights[i];
        }
        String name = "sow(" + seed + ", " + bend + ")";
        HilbertBasis basis = new HilbertBasis();
        Check.due(name, basis.sow(seed, bend), sum);
        for (int i = 0; i < 5; i++) {
            Check.due(name + ": weight(" + i + ")", basis.weight(i), weights[i]);
        }
        Reference reference = new Reference(weights);
        compareWhole(name, basis, reference);
        for (int k = 0; k < SAMPLES; k++) {
            int code = (k * 7919 + seed * 1301 + bend * 97) % 16807;
            compareCode(name, basis, reference, k % 2 == 0 ? code : balanceFrom(reference, code));
        }
    }

    /** Most rows are no balances; this finds one that is, so that the samples hold many. */
    private static int balanceFrom(Reference reference, int start) {
        int code = start;
        while (reference.isBalance(code) == 0) {
            code = (code + 1) % 16807;
        }
        return code;
    }

    private static void compareEveryCode(int[] weights) {
        String name = java.util.Arrays.toString(weights);
        Reference reference = new Reference(weights);
        compareWhole(name, Check.weighing(weights), reference);
        HilbertBasis basis = null;
        for (int code = 0; code < 16807; code++) {
            if (code % CODES_AN_OBJECT == 0) {
                basis = Check.weighing(weights);
            }
            compareCode(name, basis, reference, code);
        }
    }

    private static void compareWhole(String name, HilbertBasis basis, Reference reference) {
        Check.due(name + ": least()", basis.least(), reference.least());
        Check.due(name + ": longest()", basis.longest(), reference.longest());
        Check.due(name + ": small()", basis.small(), reference.small());
        for (int i = -1; i <= reference.least(); i++) {
            Check.due(name + ": code(" + i + ")", basis.code(i), reference.code(i));
        }
        for (int i = 0; i < 5; i++) {
            Check.due(name + ": using(" + i + ")", basis.using(i), reference.using(i));
        }
        for (int n = 0; n <= 20; n++) {
            Check.due(name + ": balances(" + n + ")", basis.balances(n), reference.balances(n));
        }
    }

    private static void compareCode(String name, HilbertBasis basis, Reference reference, int code) {
        String argument = "(" + code + ")";
        Check.due(name + ": isBalance" + argument, basis.isBalance(code), reference.isBalance(code));
        Check.due(name + ": isLeast" + argument, basis.isLeast(code), reference.isLeast(code));
        Check.due(name + ": fewest" + argument, basis.fewest(code), reference.fewest(code));
        Check.due(name + ": ways" + argument, basis.ways(code), reference.ways(code));
        Check.due(name + ": inside" + argument, basis.inside(code), reference.inside(code));
    }
}
