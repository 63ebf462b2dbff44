/** The least ways to balance two sides of weights, and all ways made of them. */
public final class HilbertBasis {
    private static final int WEIGHTS = 5;
    private static final int HEAVIEST = 6;
    private static final int BASE = 7;
    private static final int CODES = 16807;
    private static final int SEEDS = 13;
    private static final int SEED_STEP = 5;
    private static final int GREATEST_SUM = 20;

    private final int[] weights = new int[WEIGHTS];

    // What follows is told by the weights alone and is made anew whenever they change,
    // so that a question only reads. Both lists stand in rising order of codes.
    private final int[] balanceCodes = new int[CODES];
    private int balanceCount;
    private final int[] leastCodes = new int[CODES];
    private int leastCount;
    // By code; only the entries of balances mean anything.
    private final int[] fewestTerms = new int[CODES];
    private final int[] waysToSum = new int[CODES];

    public HilbertBasis() {
        rebuild();
    }

    public int set(int i, int value) {
        if (!isGoodWeight(i)) {
            return -1;
        }
        if (value < -HEAVIEST || value > HEAVIEST) {
            return -2;
        }
        int before = weights[i];
        weights[i] = value;
        rebuild();
        return before;
    }

    public int sow(int seed, int bend) {
        if (seed < 0 || seed >= SEEDS) {
            return -1;
        }
        if (bend < 0 || bend >= SEEDS) {
            return -2;
        }
        int sum = 0;
        for (int i = 0; i < WEIGHTS; i++) {
            weights[i] = (seed + SEED_STEP * i + bend * i * i) % SEEDS - HEAVIEST;
            sum += weights[i];
        }
        rebuild();
        return sum;
    }

    public int weight(int i) {
        return isGoodWeight(i) ? weights[i] : -100;
    }

    public int isBalance(int code) {
        if (!isGoodCode(code)) {
            return -1;
        }
        return tilt(code) == 0 ? 1 : 0;
    }

    public int isLeast(int code) {
        if (!isGoodCode(code)) {
            return -1;
        }
        for (int k = 0; k < leastCount; k++) {
            if (leastCodes[k] == code) {
                return 1;
            }
        }
        return 0;
    }

    public int least() {
        return leastCount;
    }

    public int code(int i) {
        return i >= 0 && i < leastCount ? leastCodes[i] : -1;
    }

    public int using(int i) {
        if (!isGoodWeight(i)) {
            return -1;
        }
        int count = 0;
        for (int k = 0; k < leastCount; k++) {
            if (digit(leastCodes[k], i) > 0) {
                count++;
            }
        }
        return count;
    }

    public int longest() {
        int greatest = 0;
        for (int k = 0; k < leastCount; k++) {
            int sum = digitSum(leastCodes[k]);
            if (sum > greatest) {
                greatest = sum;
            }
        }
        return greatest;
    }

    // The rows counted here may hold numbers above 6, so they have no code
    // and the list of balances does not help.
    public int balances(int n) {
        if (n < 0 || n > GREATEST_SUM) {
            return -1;
        }
        int count = 0;
        for (int x0 = 0; x0 <= n; x0++) {
            for (int x1 = 0; x1 <= n - x0; x1++) {
                int tilt = x0 * weights[0] + x1 * weights[1];
                count += completions(n - x0 - x1, tilt);
            }
        }
        return count;
    }

    public int fewest(int code) {
        if (!isGoodCode(code)) {
            return -1;
        }
        return tilt(code) == 0 ? fewestTerms[code] : -2;
    }

    public int ways(int code) {
        if (!isGoodCode(code)) {
            return -1;
        }
        return tilt(code) == 0 ? waysToSum[code] : -2;
    }

    public int inside(int code) {
        if (!isGoodCode(code)) {
            return -1;
        }
        return firstLeastPart(code);
    }

    public int small() {
        return balanceCount;
    }

    private static boolean isGoodWeight(int i) {
        return i >= 0 && i < WEIGHTS;
    }

    private static boolean isGoodCode(int code) {
        return code >= 0 && code < CODES;
    }

    private static int digit(int code, int i) {
        int rest = code;
        for (int j = WEIGHTS - 1; j > i; j--) {
            rest /= BASE;
        }
        return rest % BASE;
    }

    private static int digitSum(int code) {
        int rest = code;
        int sum = 0;
        for (int i = 0; i < WEIGHTS; i++) {
            sum += rest % BASE;
            rest /= BASE;
        }
        return sum;
    }

    private static boolean isPart(int part, int whole) {
        int partRest = part;
        int wholeRest = whole;
        for (int i = 0; i < WEIGHTS; i++) {
            if (partRest % BASE > wholeRest % BASE) {
                return false;
            }
            partRest /= BASE;
            wholeRest /= BASE;
        }
        return true;
    }

    private int tilt(int code) {
        int rest = code;
        int sum = 0;
        for (int i = WEIGHTS - 1; i >= 0; i--) {
            sum += weights[i] * (rest % BASE);
            rest /= BASE;
        }
        return sum;
    }

    /** How many choices of x2, x3, x4 with this sum bring the tilt of x0 and x1 back to 0. */
    private int completions(int sum, int tilt) {
        int count = 0;
        for (int x2 = 0; x2 <= sum; x2++) {
            for (int x3 = 0; x3 <= sum - x2; x3++) {
                int x4 = sum - x2 - x3;
                if (tilt + x2 * weights[2] + x3 * weights[3] + x4 * weights[4] == 0) {
                    count++;
                }
            }
        }
        return count;
    }

    /** The smallest code of a known least balance that is part of the row; -2 if there is none. */
    private int firstLeastPart(int code) {
        for (int k = 0; k < leastCount; k++) {
            if (isPart(leastCodes[k], code)) {
                return leastCodes[k];
            }
        }
        return -2;
    }

    private void rebuild() {
        gatherBalances();
        gatherLeast();
        startSums();
        for (int k = 0; k < leastCount; k++) {
            addToSums(leastCodes[k]);
        }
    }

    private void gatherBalances() {
        balanceCount = 0;
        for (int code = 0; code < CODES; code++) {
            if (tilt(code) == 0) {
                balanceCodes[balanceCount] = code;
                balanceCount++;
            }
        }
    }

    // A part has a smaller code than its whole, so the least balances that could be
    // part of a row are all known when the row's turn comes. The first balance is
    // the row of zeros, which is never least.
    private void gatherLeast() {
        leastCount = 0;
        for (int k = 1; k < balanceCount; k++) {
            int code = balanceCodes[k];
            if (firstLeastPart(code) < 0) {
                leastCodes[leastCount] = code;
                leastCount++;
            }
        }
    }

    // With no least balance to take, only the row of zeros is a sum. CODES stands
    // for "no sum yet": no sum has that many terms.
    private void startSums() {
        for (int k = 0; k < balanceCount; k++) {
            int code = balanceCodes[k];
            fewestTerms[code] = CODES;
            waysToSum[code] = 0;
        }
        fewestTerms[0] = 0;
        waysToSum[0] = 1;
    }

    // Rising order of codes lets the same least balance be taken several times;
    // taking the least balances one after the other leaves their order out of the count.
    private void addToSums(int term) {
        for (int k = 0; k < balanceCount; k++) {
            int code = balanceCodes[k];
            if (isPart(term, code)) {
                int rest = code - term;
                waysToSum[code] += waysToSum[rest];
                if (fewestTerms[rest] + 1 < fewestTerms[code]) {
                    fewestTerms[code] = fewestTerms[rest] + 1;
                }
            }
        }
    }
}
