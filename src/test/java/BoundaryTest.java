import java.util.Arrays;
import java.util.function.Function;
import java.util.function.IntUnaryOperator;

/**
 * A test for each sentence of the document that names a boundary; the sentence stands above its test.
 * What a refused call leaves unchanged is told by StateTest.
 */
public final class BoundaryTest {
    private static final int SMALLEST = Integer.MIN_VALUE;
    private static final int GREATEST = Integer.MAX_VALUE;
    // The first bad ones on each side, the ends of int, and numbers that would
    // look good if only some of their bits, their size or their remainder were seen.
    private static final int[] BAD_WEIGHT_NUMBERS = {-1, 5, -4, 256, 65536, -65536, SMALLEST, GREATEST};
    private static final int[] BAD_VALUES = {-7, 7, 256, 65536, -65536, SMALLEST, SMALLEST + 6, GREATEST};
    private static final int[] BAD_SOWINGS = {-1, 13, -12, 26, 256, 65536, SMALLEST, GREATEST};
    private static final int[] BAD_CODES = {-1, 16807, -16806, 33614, 65536, SMALLEST, GREATEST};
    private static final int[] BAD_SUMS = {-1, 21, -20, 256, 65536, SMALLEST, GREATEST};
    private static final int[] UNITS = {2401, 343, 49, 7, 1};

    private static final int[] ZEROS = {0, 0, 0, 0, 0};
    private static final int[] EXAMPLE = {2, -3, 1, 0, 6};
    private static final int[] MOST_LEAST = {6, 6, -5, -5, -5};
    private static final int[] ALL_RIGHT = {1, 2, 3, 4, 6};
    private static final int[] ALL_LEFT = {-6, -1, -2, -3, -4};
    private static final int[][] STATES = {ZEROS, EXAMPLE, MOST_LEAST, ALL_RIGHT, ALL_LEFT};
    private static final int[][] NO_LEAST = {ALL_RIGHT, ALL_LEFT, {1, 1, 1, 1, 1}, {-6, -6, -6, -6, -6}};

    public static void main(String[] args) {
        weightsAtFirst();
        weightsRange();
        rowOfZeros();
        numbersOfLeastBalances();
        codesRange();
        setBadNumber();
        setBadValue();
        setBothBad();
        setAnswersLikeARefusal();
        sowBadSeed();
        sowBadBend();
        sowBothBad();
        sowEdges();
        sowModulo();
        sowAnswersLikeARefusal();
        weightBadNumber();
        isBalanceBadCode();
        isLeastBadCode();
        isLeastEdges();
        codeNoSuchOne();
        codeAfterShrinking();
        usingBadNumber();
        usingEdges();
        longestNone();
        longestEdges();
        balancesBadSum();
        balancesEdges();
        fewestBadCode();
        fewestNoBalance();
        fewestEdges();
        waysBadCode();
        waysNoBalance();
        waysEdges();
        insideBadCode();
        insideNone();
        insideEdges();
        smallEdges();
        noLeastBalance();
        placesInACode();
        Check.finish();
    }

    private static void due(int[] weights, String call, int got, int want) {
        Check.due(Arrays.toString(weights) + " " + call, got, want);
    }

    /** Asks in every state with each bad argument: no state may let another answer come first. */
    private static void refused(String name, Function<HilbertBasis, IntUnaryOperator> question, int[] bad, int answer) {
        for (int[] weights : STATES) {
            IntUnaryOperator asked = question.apply(Check.weighing(weights));
            for (int argument : bad) {
                due(weights, name + "(" + argument + ")", asked.applyAsInt(argument), answer);
            }
        }
    }

    private static void weightsAre(String cause, HilbertBasis basis, int... weights) {
        for (int i = 0; i < 5; i++) {
            Check.due(cause + ": weight(" + i + ")", basis.weight(i), weights[i]);
        }
    }

    // Terms: "five WEIGHTS, 0 .. 4, .. all 0 at first". Promise 1: "All weights are 0."
    private static void weightsAtFirst() {
        HilbertBasis basis = new HilbertBasis();
        weightsAre("new", basis, ZEROS);
        Check.due("new: least()", basis.least(), 5);
        for (int i = 0; i < 5; i++) {
            Check.due("new: set(" + i + ", 0)", basis.set(i, 0), 0);
        }
    }

    // Terms: "whole numbers -6 .. 6". Promise 2: "otherwise answers the one before".
    private static void weightsRange() {
        for (int i = 0; i < 5; i++) {
            HilbertBasis basis = new HilbertBasis();
            int before = 0;
            for (int value = -6; value <= 6; value++) {
                Check.due("set(" + i + ", " + value + ")", basis.set(i, value), before);
                Check.due("weight(" + i + ")", basis.weight(i), value);
                before = value;
            }
            Check.due("set(" + i + ", 6) again", basis.set(i, 6), 6);
            int[] weights = new int[5];
            weights[i] = 6;
            weightsAre("sets of weight " + i + " alone", basis, weights);
        }
    }

    // Terms: the row of zeros is a balance but not least. Promise 13: "1 for the row of zeros."
    // Promise 16: "fewest: 0 for the row of zeros."
    private static void rowOfZeros() {
        for (int[] weights : STATES) {
            HilbertBasis basis = Check.weighing(weights);
            due(weights, "isBalance(0)", basis.isBalance(0), 1);
            due(weights, "isLeast(0)", basis.isLeast(0), 0);
            due(weights, "fewest(0)", basis.fewest(0), 0);
            due(weights, "ways(0)", basis.ways(0), 1);
            due(weights, "inside(0)", basis.inside(0), -2);
            due(weights, "balances(0)", basis.balances(0), 1);
        }
    }

    // Terms: "No number of a least balance is greater than 6": 6 itself stands at every place.
    private static void numbersOfLeastBalances() {
        for (int i = 0; i < 5; i++) {
            int[] weights = {6, 6, 6, 6, 6};
            weights[i] = -1;
            HilbertBasis basis = Check.weighing(weights);
            due(weights, "least()", basis.least(), 4);
            for (int j = 0; j < 5; j++) {
                if (j != i) {
                    int code = 6 * UNITS[i] + UNITS[j];
                    due(weights, "isLeast(" + code + ")", basis.isLeast(code), 1);
                    due(weights, "isLeast(" + (code - UNITS[i]) + ")", basis.isLeast(code - UNITS[i]), 0);
                }
            }
        }
    }

    // Terms: "0 .. 16806; its CODE", "a code [is good] if it is in 0 .. 16806".
    private static void codesRange() {
        HilbertBasis basis = new HilbertBasis();
        Check.due("new: isBalance(16806)", basis.isBalance(16806), 1);
        Check.due("new: isBalance(16807)", basis.isBalance(16807), -1);
        Check.due("new: isBalance(0)", basis.isBalance(0), 1);
        Check.due("new: isBalance(-1)", basis.isBalance(-1), -1);
        Check.due("new: isLeast(16806)", basis.isLeast(16806), 0);
        Check.due("new: isLeast(16807)", basis.isLeast(16807), -1);
        Check.due("new: fewest(16806)", basis.fewest(16806), 30);
        Check.due("new: fewest(16807)", basis.fewest(16807), -1);
        Check.due("new: ways(16806)", basis.ways(16806), 1);
        Check.due("new: ways(16807)", basis.ways(16807), -1);
        Check.due("new: inside(16806)", basis.inside(16806), 1);
        Check.due("new: inside(16807)", basis.inside(16807), -1);
    }

    // Promise 2: "-1 if i is not good"
    private static void setBadNumber() {
        refused("set, value 0, i ", basis -> i -> basis.set(i, 0), BAD_WEIGHT_NUMBERS, -1);
        refused("set, value -6, i ", basis -> i -> basis.set(i, -6), BAD_WEIGHT_NUMBERS, -1);
        refused("set, value 6, i ", basis -> i -> basis.set(i, 6), BAD_WEIGHT_NUMBERS, -1);
    }

    // Promise 2: "-2 if value is not in -6 .. 6"
    private static void setBadValue() {
        for (int i = 0; i < 5; i++) {
            int number = i;
            refused("set, i " + i + ", value ", basis -> value -> basis.set(number, value), BAD_VALUES, -2);
        }
    }

    // Terms: "In every method the tests are made in the order named"
    private static void setBothBad() {
        for (int bad : BAD_WEIGHT_NUMBERS) {
            refused("set, i " + bad + ", value ", basis -> value -> basis.set(bad, value), BAD_VALUES, -1);
        }
    }

    // Promise 2: "otherwise answers the one before": -1 and -2 may be that one, and the set is made.
    private static void setAnswersLikeARefusal() {
        HilbertBasis basis = Check.weighing(-1, -2, 1, 1, 1);
        Check.due("set(0, 6) over -1", basis.set(0, 6), -1);
        Check.due("set(1, -6) over -2", basis.set(1, -6), -2);
        weightsAre("sets over -1 and -2", basis, 6, -6, 1, 1, 1);
        Check.due("1 1 0 0 0 is least after it", basis.isLeast(Check.row(1, 1, 0, 0, 0)), 1);
    }

    // Promise 3: "-1 if seed is not in 0 .. 12"
    private static void sowBadSeed() {
        refused("sow, bend 0, seed ", basis -> seed -> basis.sow(seed, 0), BAD_SOWINGS, -1);
        refused("sow, bend 12, seed ", basis -> seed -> basis.sow(seed, 12), BAD_SOWINGS, -1);
    }

    // Promise 3: "-2 if bend is not in 0 .. 12"
    private static void sowBadBend() {
        refused("sow, seed 0, bend ", basis -> bend -> basis.sow(0, bend), BAD_SOWINGS, -2);
        refused("sow, seed 12, bend ", basis -> bend -> basis.sow(12, bend), BAD_SOWINGS, -2);
    }

    // Terms: "In every method the tests are made in the order named"
    private static void sowBothBad() {
        for (int bad : BAD_SOWINGS) {
            refused("sow, seed " + bad + ", bend ", basis -> bend -> basis.sow(bad, bend), BAD_SOWINGS, -1);
        }
    }

    // Promise 3: seeds and bends of 0 and 12 are good; all five weights are set anew.
    private static void sowEdges() {
        HilbertBasis basis = Check.weighing(EXAMPLE);
        // 0, 5, 10, 15, 20
        Check.due("sow(0, 0)", basis.sow(0, 0), -6);
        weightsAre("sow(0, 0)", basis, -6, -1, 4, -4, 1);
        // 12, 17, 22, 27, 32
        Check.due("sow(12, 0)", basis.sow(12, 0), 2);
        weightsAre("sow(12, 0)", basis, 6, -2, 3, -5, 0);
        // 0, 17, 58, 123, 212
        Check.due("sow(0, 12)", basis.sow(0, 12), -10);
        weightsAre("sow(0, 12)", basis, -6, -2, 0, 0, -2);
        // 12, 29, 70, 135, 224
        Check.due("sow(12, 12)", basis.sow(12, 12), -2);
        weightsAre("sow(12, 12)", basis, 6, -3, -1, -1, -3);
    }

    // Promise 3: "modulo 13": 12 and 25 are the last numbers before a wrap-around, 13 and 26 are 0 again.
    private static void sowModulo() {
        HilbertBasis basis = new HilbertBasis();
        // 7, 12, 17, 22, 27
        Check.due("sow(7, 0)", basis.sow(7, 0), 3);
        weightsAre("sow(7, 0)", basis, 1, 6, -2, 3, -5);
        // 8, 13, 18, 23, 28
        Check.due("sow(8, 0)", basis.sow(8, 0), -5);
        weightsAre("sow(8, 0)", basis, 2, -6, -1, 4, -4);
        // 5, 10, 15, 20, 25
        Check.due("sow(5, 0)", basis.sow(5, 0), 6);
        weightsAre("sow(5, 0)", basis, -1, 4, -4, 1, 6);
        // 6, 11, 16, 21, 26
        Check.due("sow(6, 0)", basis.sow(6, 0), -2);
        weightsAre("sow(6, 0)", basis, 0, 5, -3, 2, -6);
    }

    // Promise 3: "otherwise answers the sum of the weights": -1 and -2 may be that sum, and the sow is made.
    private static void sowAnswersLikeARefusal() {
        HilbertBasis basis = new HilbertBasis();
        // 3, 12, 29, 54, 87
        Check.due("sow(3, 4)", basis.sow(3, 4), -1);
        weightsAre("sow(3, 4)", basis, -3, 6, -3, -4, 3);
        // 6, 11, 16, 21, 26
        Check.due("sow(6, 0)", basis.sow(6, 0), -2);
        weightsAre("sow(6, 0)", basis, 0, 5, -3, 2, -6);
    }

    // Promise 4: "-100 if i is not good"
    private static void weightBadNumber() {
        refused("weight", basis -> basis::weight, BAD_WEIGHT_NUMBERS, -100);
        HilbertBasis basis = Check.weighing(-6, 0, 0, 0, 6);
        Check.due("weight(0), the first good one", basis.weight(0), -6);
        Check.due("weight(4), the last good one", basis.weight(4), 6);
    }

    // Promise 5: "-1 if code is not good"
    private static void isBalanceBadCode() {
        refused("isBalance", basis -> basis::isBalance, BAD_CODES, -1);
    }

    // Promise 6: "-1 if code is not good"
    private static void isLeastBadCode() {
        refused("isLeast", basis -> basis::isLeast, BAD_CODES, -1);
    }

    // Terms: "LEAST if it is not the row of zeros and no balance but itself and the row of zeros is part of it"
    private static void isLeastEdges() {
        HilbertBasis lone = Check.weighing(1, 1, 1, 1, 0);
        Check.due("isLeast of one lone 0", lone.isLeast(1), 1);
        Check.due("isLeast of two lone 0s", lone.isLeast(2), 0);
        Check.due("isLeast of six lone 0s", lone.isLeast(6), 0);
        HilbertBasis pair = Check.weighing(4, -6, 1, 1, 1);
        Check.due("isLeast of 3 2 0 0 0", pair.isLeast(Check.row(3, 2, 0, 0, 0)), 1);
        Check.due("isLeast of 6 4 0 0 0", pair.isLeast(Check.row(6, 4, 0, 0, 0)), 0);
        // 0 1 6 0 0 has the smaller code but one greater number, so it is no part of 1 1 2 0 0.
        Check.due("isLeast of 0 1 6 0 0", pair.isLeast(Check.row(0, 1, 6, 0, 0)), 1);
        Check.due("isLeast of 1 1 2 0 0", pair.isLeast(Check.row(1, 1, 2, 0, 0)), 1);
        Check.due("isLeast of 1 1 2 1 0", pair.isLeast(Check.row(1, 1, 2, 1, 0)), 0);
    }

    // Promise 8: "(0 for the first); -1 if there is no such one"
    private static void codeNoSuchOne() {
        int[] bad = {-1, 168, 169, 16806, 16807, 65536, SMALLEST, GREATEST};
        refused("code", basis -> basis::code, bad, -1);
        for (int[] weights : STATES) {
            HilbertBasis basis = Check.weighing(weights);
            due(weights, "code(least())", basis.code(basis.least()), -1);
        }
        HilbertBasis most = Check.weighing(MOST_LEAST);
        Check.due("code(0), the first of 168", most.code(0), Check.row(0, 5, 0, 0, 6));
        Check.due("code(167), the last of 168", most.code(167), Check.row(5, 0, 6, 0, 0));
        HilbertBasis one = Check.weighing(1, 0, 1, 1, 1);
        Check.due("code(0), the only one", one.code(0), 343);
        Check.due("code(1), one past the only one", one.code(1), -1);
    }

    // Promise 8, after there were more: what an earlier state had is no such one.
    private static void codeAfterShrinking() {
        HilbertBasis basis = Check.weighing(MOST_LEAST);
        Check.due("code(167) of 168", basis.code(167), Check.row(5, 0, 6, 0, 0));
        basis.set(2, 6);
        basis.set(3, 6);
        Check.due("least() of 6 6 6 6 -5", basis.least(), 56);
        Check.due("code(55) of 56", basis.code(55), Check.row(5, 0, 0, 0, 6));
        Check.due("code(56) of 56", basis.code(56), -1);
        basis.set(4, 6);
        for (int i = 0; i < 168; i++) {
            Check.due("code(" + i + ") of none", basis.code(i), -1);
        }
    }

    // Promise 9: "-1 if i is not good"
    private static void usingBadNumber() {
        refused("using", basis -> basis::using, BAD_WEIGHT_NUMBERS, -1);
    }

    // Promise 9: "a number xi greater than 0": 1 and 6 are, 0 is not.
    private static void usingEdges() {
        for (int i = 0; i < 5; i++) {
            int[] lone = {1, 1, 1, 1, 1};
            lone[i] = 0;
            int[] against = {6, 6, 6, 6, 6};
            against[i] = -1;
            for (int j = 0; j < 5; j++) {
                due(lone, "using(" + j + ")", Check.weighing(lone).using(j), i == j ? 1 : 0);
                due(against, "using(" + j + ")", Check.weighing(against).using(j), i == j ? 4 : 1);
            }
        }
    }

    // Promise 10: "0 if there is none"
    private static void longestNone() {
        for (int[] weights : NO_LEAST) {
            due(weights, "longest()", Check.weighing(weights).longest(), 0);
        }
        HilbertBasis basis = Check.weighing(MOST_LEAST);
        Check.due("longest() of 6 6 -5 -5 -5", basis.longest(), 11);
        basis.set(0, -6);
        basis.set(1, -6);
        Check.due("longest() after the last is gone", basis.longest(), 0);
    }

    // Promise 10: the shortest and the longest that can be.
    private static void longestEdges() {
        Check.due("longest() of zeros", new HilbertBasis().longest(), 1);
        Check.due("longest() of a lone 0", Check.weighing(1, 1, 0, 1, 1).longest(), 1);
        Check.due("longest() of a pair", Check.weighing(6, 6, 6, 6, -6).longest(), 2);
        Check.due("longest() of 6 against 5", Check.weighing(-6, 5, 5, 5, 5).longest(), 11);
    }

    // Promise 11: "-1 if n is not in 0 .. 20"
    private static void balancesBadSum() {
        refused("balances", basis -> basis::balances, BAD_SUMS, -1);
    }

    // Promise 11: n of 0 and 20 are good, and a number of the row may be all of n, though it has no code.
    private static void balancesEdges() {
        int rows = 1;
        HilbertBasis zeros = new HilbertBasis();
        for (int n = 0; n <= 20; n++) {
            Check.due("new: balances(" + n + ")", zeros.balances(n), rows);
            rows = rows * (n + 5) / (n + 1);
        }
        for (int i = 0; i < 5; i++) {
            int[] lone = {6, 6, 6, 6, 6};
            lone[i] = 0;
            HilbertBasis basis = Check.weighing(lone);
            for (int n = 0; n <= 20; n++) {
                due(lone, "balances(" + n + ")", basis.balances(n), 1);
            }
        }
        HilbertBasis pair = Check.weighing(6, 6, 6, 6, -6);
        // Ten against ten: the ten in 286 ways of the first four.
        Check.due("6 6 6 6 -6: balances(20)", pair.balances(20), 286);
        Check.due("6 6 6 6 -6: balances(19)", pair.balances(19), 0);
    }

    // Promise 12: "-1 if code is not good"
    private static void fewestBadCode() {
        refused("fewest", basis -> basis::fewest, BAD_CODES, -1);
    }

    // Promise 12: "-2 if the row is no balance"
    private static void fewestNoBalance() {
        HilbertBasis basis = Check.weighing(EXAMPLE);
        Check.due("fewest(1)", basis.fewest(1), -2);
        Check.due("fewest(7), a balance", basis.fewest(7), 1);
        Check.due("fewest(8)", basis.fewest(8), -2);
        Check.due("fewest(16806)", basis.fewest(16806), -2);
        // 3 2 0 0 0 is part of it, but what is left is no sum.
        Check.due("fewest of 3 2 1 0 0", basis.fewest(Check.row(3, 2, 1, 0, 0)), -2);
        basis.set(3, 1);
        Check.due("fewest(7), no balance any more", basis.fewest(7), -2);
    }

    // Promise 12: one for a least balance, six for six times the same, thirty at most.
    private static void fewestEdges() {
        HilbertBasis zeros = new HilbertBasis();
        HilbertBasis pairs = Check.weighing(1, 1, 1, -1, -1);
        for (int unit : UNITS) {
            Check.due("new: fewest(" + unit + ")", zeros.fewest(unit), 1);
            Check.due("new: fewest(" + 6 * unit + ")", zeros.fewest(6 * unit), 6);
        }
        Check.due("new: fewest(16806)", zeros.fewest(16806), 30);
        Check.due("1 1 1 -1 -1: fewest of 6 6 0 6 6", pairs.fewest(Check.row(6, 6, 0, 6, 6)), 12);
        // The few long ones beat the many short ones, whichever codes come first.
        HilbertBasis left = Check.weighing(1, 2, -3, 6, 6);
        Check.due("1 2 -3: fewest of 3 3 3 0 0", left.fewest(Check.row(3, 3, 3, 0, 0)), 2);
        HilbertBasis right = Check.weighing(6, 6, -3, 2, 1);
        Check.due("-3 2 1: fewest of 0 0 3 3 3", right.fewest(Check.row(0, 0, 3, 3, 3)), 2);
    }

    // Promise 13: "-1 if code is not good"
    private static void waysBadCode() {
        refused("ways", basis -> basis::ways, BAD_CODES, -1);
    }

    // Promise 13: "-2 if the row is no balance"
    private static void waysNoBalance() {
        HilbertBasis basis = Check.weighing(EXAMPLE);
        Check.due("ways(1)", basis.ways(1), -2);
        Check.due("ways(7), a balance", basis.ways(7), 1);
        Check.due("ways(8)", basis.ways(8), -2);
        Check.due("ways(16806)", basis.ways(16806), -2);
        Check.due("ways of 3 2 1 0 0", basis.ways(Check.row(3, 2, 1, 0, 0)), -2);
        basis.set(3, 1);
        Check.due("ways(7), no balance any more", basis.ways(7), -2);
    }

    // Promise 13: "without regard to their order": one way for a least balance and for all that
    // only one kind makes; and the row with the most ways that there is.
    private static void waysEdges() {
        HilbertBasis zeros = new HilbertBasis();
        for (int unit : UNITS) {
            Check.due("new: ways(" + unit + ")", zeros.ways(unit), 1);
            Check.due("new: ways(" + 6 * unit + ")", zeros.ways(6 * unit), 1);
        }
        Check.due("new: ways(16806)", zeros.ways(16806), 1);
        HilbertBasis both = Check.weighing(1, 2, -3, 6, 6);
        Check.due("1 2 -3: ways of 3 3 3 0 0", both.ways(Check.row(3, 3, 3, 0, 0)), 2);
        int[] most = {-4, 1, 1, 1, 1};
        due(most, "ways(16806)", Check.weighing(most).ways(16806), new Reference(most).ways(16806));
    }

    // Promise 14: "-1 if code is not good"
    private static void insideBadCode() {
        refused("inside", basis -> basis::inside, BAD_CODES, -1);
    }

    // Promise 14: "-2 if there is none"
    private static void insideNone() {
        HilbertBasis basis = Check.weighing(4, -6, 6, 6, 6);
        Check.due("inside of 3 2 0 0 0", basis.inside(Check.row(3, 2, 0, 0, 0)), Check.row(3, 2, 0, 0, 0));
        Check.due("inside of 2 2 0 0 0, one number short", basis.inside(Check.row(2, 2, 0, 0, 0)), -2);
        Check.due("inside of 3 1 0 0 0, one number short", basis.inside(Check.row(3, 1, 0, 0, 0)), -2);
        Check.due("inside of 6 1 0 0 0", basis.inside(Check.row(6, 1, 0, 0, 0)), -2);
        Check.due("inside of 6 0 6 6 6", basis.inside(Check.row(6, 0, 6, 6, 6)), -2);
        Check.due("inside of 0 6 0 0 0", basis.inside(Check.row(0, 6, 0, 0, 0)), -2);
        Check.due("inside of 1 0 0 0 1", basis.inside(Check.row(1, 0, 0, 0, 1)), -2);
    }

    // Promise 16: "of the least balances that are part of the row the one with the smallest code"
    private static void insideEdges() {
        HilbertBasis zeros = new HilbertBasis();
        Check.due("new: inside(16806)", zeros.inside(16806), 1);
        Check.due("new: inside(16800)", zeros.inside(16800), 7);
        Check.due("new: inside of 6 6 0 0 0", zeros.inside(Check.row(6, 6, 0, 0, 0)), 343);
        Check.due("new: inside of 6 0 0 0 0", zeros.inside(Check.row(6, 0, 0, 0, 0)), 2401);
        HilbertBasis basis = Check.weighing(EXAMPLE);
        // 0 1 3 0 0 has the greater sum but the smaller code than 1 1 1 0 0.
        Check.due("inside of 1 1 3 0 0", basis.inside(Check.row(1, 1, 3, 0, 0)), Check.row(0, 1, 3, 0, 0));
        Check.due("inside of 1 1 2 0 0", basis.inside(Check.row(1, 1, 2, 0, 0)), Check.row(1, 1, 1, 0, 0));
        Check.due("inside(16806), no balance", basis.inside(16806), 7);
    }

    // Promise 15: from the row of zeros alone to every row with a code.
    private static void smallEdges() {
        Check.due("new: small()", new HilbertBasis().small(), 16807);
        for (int[] weights : NO_LEAST) {
            due(weights, "small()", Check.weighing(weights).small(), 1);
        }
        // 1 6 0 0 0 still has a code, 2 12 0 0 0 has none.
        Check.due("6 -1 6 6 6: small()", Check.weighing(6, -1, 6, 6, 6).small(), 5);
        // x4 of 0 .. 6 is the sum of the first four in 1, 4, 10, 20, 35, 56, 84 ways.
        Check.due("5 5 5 5 -5: small()", Check.weighing(5, 5, 5, 5, -5).small(), 210);
    }

    // A state with no least balance: every question, at the first and the last good argument and between.
    private static void noLeastBalance() {
        int[] codes = {1, 6, 7, 343, 2401, 2801, 8403, 16800, 16806};
        for (int[] weights : NO_LEAST) {
            HilbertBasis basis = Check.weighing(weights);
            due(weights, "least()", basis.least(), 0);
            due(weights, "longest()", basis.longest(), 0);
            due(weights, "small()", basis.small(), 1);
            due(weights, "code(0)", basis.code(0), -1);
            for (int i = 0; i < 5; i++) {
                due(weights, "weight(" + i + ")", basis.weight(i), weights[i]);
                due(weights, "using(" + i + ")", basis.using(i), 0);
            }
            for (int n = 0; n <= 20; n++) {
                due(weights, "balances(" + n + ")", basis.balances(n), n == 0 ? 1 : 0);
            }
            for (int code : codes) {
                due(weights, "isBalance(" + code + ")", basis.isBalance(code), 0);
                due(weights, "isLeast(" + code + ")", basis.isLeast(code), 0);
                due(weights, "fewest(" + code + ")", basis.fewest(code), -2);
                due(weights, "ways(" + code + ")", basis.ways(code), -2);
                due(weights, "inside(" + code + ")", basis.inside(code), -2);
            }
        }
    }

    // Promise 16: "The code of a row is 2401 * x0 + 343 * x1 + 49 * x2 + 7 * x3 + x4."
    private static void placesInACode() {
        for (int i = 0; i < 5; i++) {
            int[] lone = {1, 1, 1, 1, 1};
            lone[i] = 0;
            HilbertBasis basis = Check.weighing(lone);
            due(lone, "code(0)", basis.code(0), UNITS[i]);
            for (int j = 0; j < 5; j++) {
                due(lone, "isBalance(" + UNITS[j] + ")", basis.isBalance(UNITS[j]), i == j ? 1 : 0);
                due(lone, "isBalance(" + 6 * UNITS[j] + ")", basis.isBalance(6 * UNITS[j]), i == j ? 1 : 0);
            }
            due(lone, "inside(16806)", basis.inside(16806), UNITS[i]);
            due(lone, "inside(16806 less the place)", basis.inside(16806 - 6 * UNITS[i]), -2);
        }
    }
}
