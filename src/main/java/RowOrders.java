/**
 * Permutations of a few numbers and two orders of them.
 *
 * Inside, a permutation is named by its rank: how many permutations have a lesser code.
 * A step puts a greater number into the earlier of its two places and so makes the code
 * greater: whatever is below a permutation has a lesser rank. The walks through the
 * orders rest on that: one pass over the ranks meets every permutation after all those
 * that lead to it.
 */
public final class RowOrders {
    public static final int BAD_ARG = -1000;
    public static final int NONE = -1001;

    private static final int LEAST_NUMBERS = 2;
    private static final int MOST_NUMBERS = 5;
    private static final int MOST_PERMUTATIONS = 120;
    private static final int MOST_PAIRS = 10;
    private static final int MOST_EXCHANGES = 1200;

    private final int n;
    private final int count;

    private final int[] element = new int[2];
    private final int[] inversionCount = new int[MOST_PERMUTATIONS];
    private final int[] exchangedRank = new int[MOST_EXCHANGES];

    // Room to work in: nothing in these outlasts the call that wrote it.
    private final int[] row = new int[MOST_NUMBERS];
    private final int[] otherRow = new int[MOST_NUMBERS];
    private final int[] made = new int[MOST_NUMBERS];
    private final int[] sums = new int[MOST_PERMUTATIONS];
    private final boolean[] marks = new boolean[MOST_PERMUTATIONS];
    private final boolean[] otherMarks = new boolean[MOST_PERMUTATIONS];

    public RowOrders(int numbers) {
        n = numbers < LEAST_NUMBERS ? LEAST_NUMBERS : numbers > MOST_NUMBERS ? MOST_NUMBERS : numbers;
        int product = 1;
        for (int factor = 2; factor <= n; factor++) {
            product *= factor;
        }
        count = product;
        for (int k = 0; k < count; k++) {
            fillTables(k);
        }
    }

    public int put(int e, int code) {
        if (!isZeroOrOne(e) || !readCode(code)) {
            return BAD_ARG;
        }
        keepMade(e);
        return 0;
    }

    public int exchange(int e, int i, int j) {
        if (!isZeroOrOne(e) || !isPlace(i) || !isPlace(j)) {
            return BAD_ARG;
        }
        loadRow(made, element[e]);
        exchangeNumbers(made, i, j);
        return keepMade(e);
    }

    public int invert(int e) {
        if (!isZeroOrOne(e)) {
            return BAD_ARG;
        }
        loadRow(row, element[e]);
        for (int i = 0; i < n; i++) {
            made[row[i] - 1] = i + 1;
        }
        return keepMade(e);
    }

    public int reverse(int e) {
        if (!isZeroOrOne(e)) {
            return BAD_ARG;
        }
        loadRow(row, element[e]);
        for (int i = 0; i < n; i++) {
            made[i] = row[n - 1 - i];
        }
        return keepMade(e);
    }

    public int multiply() {
        loadRow(row, element[0]);
        loadRow(otherRow, element[1]);
        for (int i = 0; i < n; i++) {
            made[i] = row[otherRow[i] - 1];
        }
        return keepMade(0);
    }

    public int meet() {
        markBelow(marks, element[0], 1);
        markBelow(otherMarks, element[1], 1);
        // All that are below both are below the one sought, so it has the greatest rank of them.
        int greatest = 0;
        for (int k = 0; k < count; k++) {
            if (marks[k] && otherMarks[k]) {
                greatest = k;
            }
        }
        element[0] = greatest;
        return inversionCount[greatest];
    }

    public int join() {
        markAbove(marks, element[0], 1);
        markAbove(otherMarks, element[1], 1);
        // The one sought is below all that both are below, so it has the least rank of them.
        int least = count - 1;
        for (int k = count - 1; k >= 0; k--) {
            if (marks[k] && otherMarks[k]) {
                least = k;
            }
        }
        element[0] = least;
        return inversionCount[least];
    }

    public int code(int e) {
        if (!isZeroOrOne(e)) {
            return BAD_ARG;
        }
        return codeOfRank(element[e]);
    }

    public int inversions(int e) {
        if (!isZeroOrOne(e)) {
            return BAD_ARG;
        }
        return inversionCount[element[e]];
    }

    public int rank(int e) {
        if (!isZeroOrOne(e)) {
            return BAD_ARG;
        }
        return element[e];
    }

    public int permutation(int k) {
        if (k < 0 || k >= count) {
            return NONE;
        }
        return codeOfRank(k);
    }

    public int below(int o) {
        if (!isZeroOrOne(o)) {
            return BAD_ARG;
        }
        markAbove(marks, element[0], o);
        return marks[element[1]] ? 1 : 0;
    }

    public int interval(int o) {
        if (!isZeroOrOne(o)) {
            return BAD_ARG;
        }
        markAbove(marks, element[0], o);
        markBelow(otherMarks, element[1], o);
        int size = 0;
        for (int k = 0; k < count; k++) {
            if (marks[k] && otherMarks[k]) {
                size++;
            }
        }
        return size;
    }

    public int ways(int o) {
        if (!isZeroOrOne(o)) {
            return BAD_ARG;
        }
        int from = element[0];
        int to = element[1];
        startSums(from);
        for (int k = from; k < to; k++) {
            if (sums[k] != 0) {
                passWaysOn(k, o);
            }
        }
        return sums[to];
    }

    public int sign(int o) {
        if (!isZeroOrOne(o)) {
            return BAD_ARG;
        }
        int from = element[0];
        int to = element[1];
        startSums(from);
        for (int k = from; k < to; k++) {
            if (sums[k] != 0) {
                takeSignFromAbove(k, o);
            }
        }
        return sums[to];
    }

    public int steps(int e, int o) {
        if (!isZeroOrOne(e) || !isZeroOrOne(o)) {
            return BAD_ARG;
        }
        int from = element[e];
        int found = 0;
        int pairs = countPairs(o);
        for (int pair = 0; pair < pairs; pair++) {
            int to = exchangedRank[from * MOST_PAIRS + pair];
            if (isSingleStep(from, to)) {
                found++;
            }
        }
        return found;
    }

    private boolean isZeroOrOne(int value) {
        return value == 0 || value == 1;
    }

    private boolean isPlace(int i) {
        return i >= 0 && i < n;
    }

    private void fillTables(int k) {
        loadRow(made, k);
        inversionCount[k] = countInversions(made);
        int pair = 0;
        // The pairs of places next to each other come first: order 1 looks at these alone.
        for (int distance = 1; distance < n; distance++) {
            for (int i = 0; i < n - distance; i++) {
                exchangeNumbers(made, i, i + distance);
                exchangedRank[k * MOST_PAIRS + pair] = rankOfRow(made);
                exchangeNumbers(made, i, i + distance);
                pair++;
            }
        }
    }

    /** How many pairs of places a step of order o may exchange. */
    private int countPairs(int o) {
        return o == 0 ? n * (n - 1) / 2 : n - 1;
    }

    /** Writes the permutation of rank k from its last place to its first one. */
    private void loadRow(int[] numbers, int k) {
        int rest = k;
        for (int choices = 1; choices <= n; choices++) {
            int i = n - choices;
            numbers[i] = rest % choices + 1;
            rest /= choices;
            // The numbers behind were chosen without this one and make room for it.
            for (int j = i + 1; j < n; j++) {
                if (numbers[j] >= numbers[i]) {
                    numbers[j]++;
                }
            }
        }
    }

    private int rankOfRow(int[] numbers) {
        int k = 0;
        for (int i = 0; i < n; i++) {
            k = k * (n - i) + countLesserBehind(numbers, i);
        }
        return k;
    }

    private int countInversions(int[] numbers) {
        int found = 0;
        for (int i = 0; i < n; i++) {
            found += countLesserBehind(numbers, i);
        }
        return found;
    }

    private int countLesserBehind(int[] numbers, int i) {
        int found = 0;
        for (int j = i + 1; j < n; j++) {
            if (numbers[j] < numbers[i]) {
                found++;
            }
        }
        return found;
    }

    private void exchangeNumbers(int[] numbers, int i, int j) {
        int number = numbers[i];
        numbers[i] = numbers[j];
        numbers[j] = number;
    }

    private int codeOfRank(int k) {
        loadRow(row, k);
        int digits = 0;
        for (int i = 0; i < n; i++) {
            digits = digits * 10 + row[i];
        }
        return digits;
    }

    /** Writes the digits into the made row; false if they are no permutation's. */
    private boolean readCode(int digits) {
        int rest = digits;
        int seen = 0;
        for (int i = n - 1; i >= 0; i--) {
            int number = rest % 10;
            rest /= 10;
            if (number < 1 || number > n || (seen >> number & 1) != 0) {
                return false;
            }
            seen |= 1 << number;
            made[i] = number;
        }
        return rest == 0;
    }

    /** Element e becomes the made row; answers its inversions. */
    private int keepMade(int e) {
        int k = rankOfRow(made);
        element[e] = k;
        return inversionCount[k];
    }

    private boolean isStep(int from, int to) {
        return inversionCount[to] > inversionCount[from];
    }

    private boolean isSingleStep(int from, int to) {
        return inversionCount[to] == inversionCount[from] + 1;
    }

    /** Marks just the permutations that the one of rank k is below. */
    private void markAbove(boolean[] marked, int k, int o) {
        for (int r = 0; r < count; r++) {
            marked[r] = r == k;
        }
        for (int r = k; r < count; r++) {
            if (marked[r]) {
                markStepsFrom(marked, r, o);
            }
        }
    }

    private void markStepsFrom(boolean[] marked, int from, int o) {
        int pairs = countPairs(o);
        for (int pair = 0; pair < pairs; pair++) {
            int to = exchangedRank[from * MOST_PAIRS + pair];
            if (isStep(from, to)) {
                marked[to] = true;
            }
        }
    }

    /** Marks just the permutations that are below the one of rank k. */
    private void markBelow(boolean[] marked, int k, int o) {
        for (int r = 0; r < count; r++) {
            marked[r] = r == k;
        }
        for (int r = k - 1; r >= 0; r--) {
            marked[r] = stepsToMarked(marked, r, o);
        }
    }

    private boolean stepsToMarked(boolean[] marked, int from, int o) {
        int pairs = countPairs(o);
        for (int pair = 0; pair < pairs; pair++) {
            int to = exchangedRank[from * MOST_PAIRS + pair];
            if (isStep(from, to) && marked[to]) {
                return true;
            }
        }
        return false;
    }

    private void startSums(int start) {
        for (int k = 0; k < count; k++) {
            sums[k] = k == start ? 1 : 0;
        }
    }

    private void passWaysOn(int from, int o) {
        int pairs = countPairs(o);
        for (int pair = 0; pair < pairs; pair++) {
            int to = exchangedRank[from * MOST_PAIRS + pair];
            if (isSingleStep(from, to)) {
                sums[to] += sums[from];
            }
        }
    }

    /** The sign of k is whole when its turn comes; it goes into the sums of all that k is below. */
    private void takeSignFromAbove(int k, int o) {
        markAbove(marks, k, o);
        for (int r = k + 1; r < count; r++) {
            if (marks[r]) {
                sums[r] -= sums[k];
            }
        }
    }
}
