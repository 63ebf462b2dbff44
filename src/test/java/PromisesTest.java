/** Each promise by examples worked out by hand: ordinary inputs, edges and wrong inputs. */
public final class PromisesTest {
    private static final int[] BAD_WEIGHT_NUMBERS = {-1, 5, Integer.MIN_VALUE, Integer.MAX_VALUE};
    private static final int[] BAD_CODES = {-1, 16807, Integer.MIN_VALUE, Integer.MAX_VALUE};

    // With the weights of example() the least balances are these, in rising order of codes.
    private static final int[] EXAMPLE_LEAST = {
        Check.row(0, 0, 0, 1, 0),
        Check.row(0, 1, 3, 0, 0),
        Check.row(0, 2, 0, 0, 1),
        Check.row(1, 1, 1, 0, 0),
        Check.row(3, 2, 0, 0, 0),
    };

    private static HilbertBasis example() {
        return Check.weighing(2, -3, 1, 0, 6);
    }

    public static void main(String[] args) {
        promise1NewObject();
        promise2Set();
        promise3Sow();
        promise4Weight();
        promise5IsBalance();
        promise6IsLeast();
        promise7Least();
        promise8Code();
        promise9Using();
        promise10Longest();
        promise11Balances();
        promise12Fewest();
        promise13Ways();
        promise14Inside();
        promise15Small();
        promise16OrderAndLimits();
        Check.finish();
    }

    private static void promise1NewObject() {
        HilbertBasis basis = new HilbertBasis();
        for (int i = 0; i < 5; i++) {
            Check.due("new: weight(" + i + ")", basis.weight(i), 0);
        }
        Check.due("new: least()", basis.least(), 5);
        Check.due("new: small()", basis.small(), 16807);
        Check.due("new: isBalance(16806)", basis.isBalance(16806), 1);
        HilbertBasis other = new HilbertBasis();
        other.set(0, 4);
        Check.due("new: another object's set is not seen", basis.weight(0), 0);
    }

    private static void promise2Set() {
        HilbertBasis basis = new HilbertBasis();
        for (int i = 0; i < 5; i++) {
            Check.due("set(" + i + ", -6)", basis.set(i, -6), 0);
            Check.due("set(" + i + ", 6)", basis.set(i, 6), -6);
            Check.due("set(" + i + ", " + i + ")", basis.set(i, i), 6);
            Check.due("set(" + i + ", " + i + ") again", basis.set(i, i), i);
        }
        int[] badValues = {-7, 7, Integer.MIN_VALUE, Integer.MAX_VALUE};
        for (int value : badValues) {
            Check.due("set(2, " + value + ")", basis.set(2, value), -2);
            Check.due("set(5, " + value + "): i is looked at first", basis.set(5, value), -1);
        }
        for (int i : BAD_WEIGHT_NUMBERS) {
            Check.due("set(" + i + ", 1)", basis.set(i, 1), -1);
        }
        for (int i = 0; i < 5; i++) {
            Check.due("after refused sets: weight(" + i + ")", basis.weight(i), i);
        }
    }

    private static void promise3Sow() {
        HilbertBasis basis = new HilbertBasis();
        // 3, 12, 29, 54, 87 modulo 13 are 3, 12, 3, 2, 9.
        Check.due("sow(3, 4)", basis.sow(3, 4), -1);
        int[] sown = {-3, 6, -3, -4, 3};
        for (int i = 0; i < 5; i++) {
            Check.due("sow(3, 4): weight(" + i + ")", basis.weight(i), sown[i]);
        }
        int[] bad = {-1, 13, Integer.MIN_VALUE, Integer.MAX_VALUE};
        for (int value : bad) {
            Check.due("sow(" + value + ", 0)", basis.sow(value, 0), -1);
            Check.due("sow(0, " + value + ")", basis.sow(0, value), -2);
            Check.due("sow(" + value + ", " + value + ")", basis.sow(value, value), -1);
        }
        for (int i = 0; i < 5; i++) {
            Check.due("after refused sows: weight(" + i + ")", basis.weight(i), sown[i]);
        }
        // 0, 5, 10, 2, 7
        Check.due("sow(0, 0)", basis.sow(0, 0), -6);
        // 12, 29, 70, 135, 224 modulo 13 are 12, 3, 5, 5, 3.
        Check.due("sow(12, 12)", basis.sow(12, 12), -2);
        Check.due("sow(12, 12): weight(4)", basis.weight(4), -3);
    }

    private static void promise4Weight() {
        HilbertBasis basis = Check.weighing(-6, 6, 1, -2, 3);
        int[] due = {-6, 6, 1, -2, 3};
        for (int i = 0; i < 5; i++) {
            Check.due("weight(" + i + ")", basis.weight(i), due[i]);
        }
        for (int i : BAD_WEIGHT_NUMBERS) {
            Check.due("weight(" + i + ")", basis.weight(i), -100);
        }
    }

    private static void promise5IsBalance() {
        HilbertBasis basis = example();
        Check.due("isBalance of zeros", basis.isBalance(0), 1);
        Check.due("isBalance of 3 2 0 0 0", basis.isBalance(Check.row(3, 2, 0, 0, 0)), 1);
        Check.due("isBalance of 3 2 0 6 0", basis.isBalance(Check.row(3, 2, 0, 6, 0)), 1);
        Check.due("isBalance of 2 3 0 0 0", basis.isBalance(Check.row(2, 3, 0, 0, 0)), 0);
        Check.due("isBalance of 0 0 0 2 3", basis.isBalance(Check.row(0, 0, 0, 2, 3)), 0);
        Check.due("isBalance(16806)", basis.isBalance(16806), 0);
        for (int code : BAD_CODES) {
            Check.due("isBalance(" + code + ")", basis.isBalance(code), -1);
        }
    }

    private static void promise6IsLeast() {
        HilbertBasis basis = example();
        for (int code : EXAMPLE_LEAST) {
            Check.due("isLeast(" + code + ")", basis.isLeast(code), 1);
        }
        Check.due("isLeast of zeros", basis.isLeast(0), 0);
        Check.due("isLeast of a double", basis.isLeast(Check.row(2, 2, 2, 0, 0)), 0);
        Check.due("isLeast of a sum", basis.isLeast(Check.row(3, 2, 0, 1, 0)), 0);
        Check.due("isLeast of no balance", basis.isLeast(Check.row(1, 0, 0, 0, 0)), 0);
        Check.due("isLeast(16806)", basis.isLeast(16806), 0);
        for (int code : BAD_CODES) {
            Check.due("isLeast(" + code + ")", basis.isLeast(code), -1);
        }
        // Six of the one against five of the other: the greatest number that a least balance has.
        HilbertBasis steep = Check.weighing(5, 5, 5, 5, -6);
        Check.due("isLeast of 6 0 0 0 5", steep.isLeast(Check.row(6, 0, 0, 0, 5)), 1);
        Check.due("isLeast of 1 2 3 0 5", steep.isLeast(Check.row(1, 2, 3, 0, 5)), 1);
    }

    private static void promise7Least() {
        Check.due("least() of the example", example().least(), 5);
        Check.due("least() on one side", Check.weighing(1, 2, 3, 4, 5).least(), 0);
        Check.due("least() on the other side", Check.weighing(-1, -2, -3, -4, -5).least(), 0);
        Check.due("least() with one 0", Check.weighing(1, 2, 0, 4, 5).least(), 1);
        Check.due("least() of pairs", Check.weighing(2, 2, 2, -2, -2).least(), 6);
        // Six of the first four, in 84 ways, against five of the last.
        Check.due("least() of 5 5 5 5 -6", Check.weighing(5, 5, 5, 5, -6).least(), 84);
        HilbertBasis basis = example();
        basis.set(3, 1);
        // Weights 2 and 3 are now alike: 0 1 3 0 0 becomes four, 1 1 1 0 0 two; the lone 0 is gone.
        Check.due("least() after a change", basis.least(), 8);
        basis.set(3, 0);
        Check.due("least() after changing back", basis.least(), 5);
    }

    private static void promise8Code() {
        HilbertBasis basis = example();
        for (int i = 0; i < EXAMPLE_LEAST.length; i++) {
            Check.due("code(" + i + ")", basis.code(i), EXAMPLE_LEAST[i]);
        }
        int[] none = {-1, 5, 6, Integer.MIN_VALUE, Integer.MAX_VALUE};
        for (int i : none) {
            Check.due("code(" + i + ")", basis.code(i), -1);
        }
        HilbertBasis oneSide = Check.weighing(1, 1, 1, 1, 1);
        Check.due("code(0) with no least balance", oneSide.code(0), -1);
        HilbertBasis pairs = Check.weighing(1, 1, 1, 1, -1);
        Check.due("code(3) of pairs", pairs.code(3), Check.row(1, 0, 0, 0, 1));
        Check.due("code(4) of pairs: what an earlier state left is gone", pairs.code(4), -1);
    }

    private static void promise9Using() {
        HilbertBasis basis = example();
        int[] due = {2, 4, 2, 1, 1};
        for (int i = 0; i < 5; i++) {
            Check.due("using(" + i + ")", basis.using(i), due[i]);
        }
        for (int i : BAD_WEIGHT_NUMBERS) {
            Check.due("using(" + i + ")", basis.using(i), -1);
        }
        HilbertBasis oneSide = Check.weighing(1, 1, 1, 1, 1);
        for (int i = 0; i < 5; i++) {
            Check.due("using(" + i + ") with no least balance", oneSide.using(i), 0);
        }
    }

    private static void promise10Longest() {
        Check.due("longest() of the example", example().longest(), 5);
        Check.due("longest() of a new object", new HilbertBasis().longest(), 1);
        Check.due("longest() on one side", Check.weighing(3, 3, 3, 3, 3).longest(), 0);
        Check.due("longest() of 6 -5", Check.weighing(6, -5, 6, 6, 6).longest(), 11);
        Check.due("longest() of 6 -4", Check.weighing(6, -4, 6, 6, 6).longest(), 5);
    }

    private static void promise11Balances() {
        HilbertBasis basis = example();
        int[] due = {1, 1, 1, 3, 4, 5, 8};
        for (int n = 0; n < due.length; n++) {
            Check.due("balances(" + n + ")", basis.balances(n), due[n]);
        }
        int[] bad = {-1, 21, Integer.MIN_VALUE, Integer.MAX_VALUE};
        for (int n : bad) {
            Check.due("balances(" + n + ")", basis.balances(n), -1);
        }
        // x1 = x0 + 6 s where s = x2 + x3 + x4: numbers greater than 6 count as well.
        HilbertBasis far = Check.weighing(1, -1, 6, 6, 6);
        Check.due("balances(14), numbers to 12", far.balances(14), 7);
        Check.due("balances(20), numbers to 15", far.balances(20), 7);
        Check.due("balances(19), one of x2, x3, x4", far.balances(19), 3);
        HilbertBasis oneSide = Check.weighing(1, 1, 1, 1, 1);
        Check.due("balances(0) on one side", oneSide.balances(0), 1);
        Check.due("balances(20) on one side", oneSide.balances(20), 0);
        HilbertBasis lone = Check.weighing(1, 1, 0, 1, 1);
        Check.due("balances(20) with one 0", lone.balances(20), 1);
    }

    private static void promise12Fewest() {
        HilbertBasis basis = example();
        Check.due("fewest of 3 2 0 0 0", basis.fewest(Check.row(3, 2, 0, 0, 0)), 1);
        Check.due("fewest of 3 3 3 0 0", basis.fewest(Check.row(3, 3, 3, 0, 0)), 2);
        Check.due("fewest of 3 3 3 4 0", basis.fewest(Check.row(3, 3, 3, 4, 0)), 6);
        Check.due("fewest of 0 6 0 0 3", basis.fewest(Check.row(0, 6, 0, 0, 3)), 3);
        Check.due("fewest of no balance", basis.fewest(Check.row(1, 0, 0, 0, 0)), -2);
        Check.due("fewest(16806), no balance", basis.fewest(16806), -2);
        for (int code : BAD_CODES) {
            Check.due("fewest(" + code + ")", basis.fewest(code), -1);
        }
        basis.set(4, 5);
        Check.due("fewest of a balance that was", basis.fewest(Check.row(0, 6, 0, 0, 3)), -2);
    }

    private static void promise13Ways() {
        HilbertBasis basis = example();
        Check.due("ways of zeros", basis.ways(0), 1);
        Check.due("ways of 3 2 0 0 0", basis.ways(Check.row(3, 2, 0, 0, 0)), 1);
        Check.due("ways of 3 3 3 0 0", basis.ways(Check.row(3, 3, 3, 0, 0)), 2);
        Check.due("ways of 3 3 3 4 0", basis.ways(Check.row(3, 3, 3, 4, 0)), 2);
        Check.due("ways of 0 6 0 0 3", basis.ways(Check.row(0, 6, 0, 0, 3)), 1);
        Check.due("ways of no balance", basis.ways(Check.row(1, 0, 0, 0, 0)), -2);
        Check.due("ways(16806), no balance", basis.ways(16806), -2);
        for (int code : BAD_CODES) {
            Check.due("ways(" + code + ")", basis.ways(code), -1);
        }
        basis.set(4, 5);
        Check.due("ways of a balance that was", basis.ways(Check.row(0, 6, 0, 0, 3)), -2);
        // Two by two tables with all sums 6, and any number of the lone 0.
        HilbertBasis tables = Check.weighing(1, 1, -1, -1, 0);
        Check.due("ways of 6 6 6 6 6", tables.ways(16806), 7);
        HilbertBasis oneSide = Check.weighing(1, 1, 1, 1, 1);
        Check.due("ways of zeros with no least balance", oneSide.ways(0), 1);
    }

    private static void promise14Inside() {
        HilbertBasis basis = example();
        Check.due("inside of 3 3 3 0 0", basis.inside(Check.row(3, 3, 3, 0, 0)), EXAMPLE_LEAST[1]);
        Check.due("inside of 3 3 3 4 0", basis.inside(Check.row(3, 3, 3, 4, 0)), EXAMPLE_LEAST[0]);
        Check.due("inside of no balance", basis.inside(Check.row(1, 2, 0, 0, 1)), EXAMPLE_LEAST[2]);
        Check.due("inside of 2 1 2 0 0", basis.inside(Check.row(2, 1, 2, 0, 0)), EXAMPLE_LEAST[3]);
        Check.due("inside of a least one", basis.inside(EXAMPLE_LEAST[4]), EXAMPLE_LEAST[4]);
        Check.due("inside of 6 0 6 0 6", basis.inside(Check.row(6, 0, 6, 0, 6)), -2);
        Check.due("inside of zeros", basis.inside(0), -2);
        for (int code : BAD_CODES) {
            Check.due("inside(" + code + ")", basis.inside(code), -1);
        }
    }

    private static void promise15Small() {
        Check.due("small() on one side", Check.weighing(1, 2, 3, 4, 5).small(), 1);
        Check.due("small() with one 0", Check.weighing(1, 2, 0, 4, 5).small(), 7);
        Check.due("small() of 1 -1 0 0 0", Check.weighing(1, -1, 0, 0, 0).small(), 7 * 343);
        Check.due("small() of 6 -5 0 0 0", Check.weighing(6, -5, 0, 0, 0).small(), 2 * 343);
        Check.due("small() of 6 -1 0 0 0", Check.weighing(6, -1, 0, 0, 0).small(), 2 * 343);
        Check.due("small() of 3 -1 0 0 0", Check.weighing(3, -1, 0, 0, 0).small(), 3 * 343);
    }

    private static void promise16OrderAndLimits() {
        int[] units = {2401, 343, 49, 7, 1};
        for (int i = 0; i < 5; i++) {
            HilbertBasis basis = Check.weighing(1, 1, 1, 1, 1);
            basis.set(i, 0);
            Check.due("code(0) with only weight " + i + " 0", basis.code(0), units[i]);
            Check.due("inside(16806) with only weight " + i + " 0", basis.inside(16806), units[i]);
            Check.due("fewest(0) with only weight " + i + " 0", basis.fewest(0), 0);
            Check.due("fewest of six times " + units[i], basis.fewest(6 * units[i]), 6);
        }
        HilbertBasis zeros = new HilbertBasis();
        Check.due("fewest(0)", zeros.fewest(0), 0);
        Check.due("inside(16806)", zeros.inside(16806), 1);
        Check.due("inside(16800)", zeros.inside(16800), 7);
        Check.due("fewest(16806)", zeros.fewest(16806), 30);
    }
}
