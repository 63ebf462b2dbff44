import java.util.ArrayList;
import java.util.HashMap;
import java.util.List;
import java.util.Map;

/** Answers straight from the document's definitions, by trying everything out. */
final class Reference {
    private final int[] weights;
    private final List<int[]> leastRows = new ArrayList<>();
    private int balancesWithCode = 0;

    Reference(int... weights) {
        this.weights = weights.clone();
        for (int code = 0; code < 16807; code++) {
            int[] row = rowOf(code);
            if (balances(row)) {
                balancesWithCode++;
                if (hasNoOtherPart(row)) {
                    leastRows.add(row);
                }
            }
        }
    }

    static int[] rowOf(int code) {
        String digits = Integer.toString(16807 + code, 7).substring(1);
        int[] row = new int[5];
        for (int i = 0; i < 5; i++) {
            row[i] = digits.charAt(i) - '0';
        }
        return row;
    }

    static int codeOf(int[] row) {
        return Check.row(row[0], row[1], row[2], row[3], row[4]);
    }

    int isBalance(int code) {
        return balances(rowOf(code)) ? 1 : 0;
    }

    int isLeast(int code) {
        int[] row = rowOf(code);
        return balances(row) && hasNoOtherPart(row) ? 1 : 0;
    }

    int least() {
        return leastRows.size();
    }

    int code(int i) {
        return i >= 0 && i < leastRows.size() ? codeOf(leastRows.get(i)) : -1;
    }

    int using(int i) {
        return (int) leastRows.stream().filter(row -> row[i] > 0).count();
    }

    int longest() {
        return leastRows.stream().mapToInt(row -> row[0] + row[1] + row[2] + row[3] + row[4]).max().orElse(0);
    }

    long balances(int n) {
        // How many choices of the first numbers have the sum and the tilt that the key names.
        Map<List<Integer>, Long> choices = new HashMap<>();
        choices.put(List.of(0, 0), 1L);
        for (int weight : weights) {
            Map<List<Integer>, Long> longer = new HashMap<>();
            choices.forEach((key, count) -> {
                for (int x = 0; key.get(0) + x <= n; x++) {
                    longer.merge(List.of(key.get(0) + x, key.get(1) + x * weight), count, Long::sum);
                }
            });
            choices = longer;
        }
        return choices.getOrDefault(List.of(n, 0), 0L);
    }

    int fewest(int code) {
        return isBalance(code) == 1 ? sums(rowOf(code), 0, 0)[0] : -2;
    }

    int ways(int code) {
        return isBalance(code) == 1 ? sums(rowOf(code), 0, 0)[1] : -2;
    }

    int inside(int code) {
        int[] row = rowOf(code);
        return leastRows.stream().filter(least -> isPart(least, row)).mapToInt(Reference::codeOf).min().orElse(-2);
    }

    int small() {
        return balancesWithCode;
    }

    private boolean balances(int[] row) {
        int tilt = 0;
        for (int i = 0; i < 5; i++) {
            tilt += row[i] * weights[i];
        }
        return tilt == 0;
    }

    private boolean hasNoOtherPart(int[] whole) {
        int[] part = new int[5];
        if (codeOf(whole) == 0) {
            return false;
        }
        while (nextPart(part, whole)) {
            if (balances(part) && codeOf(part) != codeOf(whole)) {
                return false;
            }
        }
        return true;
    }

    /** Counts on to the next row that is part of the whole; false when all have been seen. */
    private static boolean nextPart(int[] part, int[] whole) {
        for (int i = 4; i >= 0; i--) {
            if (part[i] < whole[i]) {
                part[i]++;
                return true;
            }
            part[i] = 0;
        }
        return false;
    }

    private static boolean isPart(int[] part, int[] whole) {
        for (int i = 0; i < 5; i++) {
            if (part[i] > whole[i]) {
                return false;
            }
        }
        return true;
    }

    /** The fewest terms and the number of the sums that use no least balance before the one named. */
    private int[] sums(int[] row, int from, int terms) {
        if (codeOf(row) == 0) {
            return new int[] {terms, 1};
        }
        int[] answer = {Integer.MAX_VALUE, 0};
        for (int k = from; k < leastRows.size(); k++) {
            int[] least = leastRows.get(k);
            if (isPart(least, row)) {
                int[] rest = row.clone();
                for (int i = 0; i < 5; i++) {
                    rest[i] -= least[i];
                }
                int[] deeper = sums(rest, k, terms + 1);
                answer[0] = Math.min(answer[0], deeper[0]);
                answer[1] += deeper[1];
            }
        }
        return answer;
    }
}
