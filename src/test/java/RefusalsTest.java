/** Wrong inputs: the code named is answered and nothing changes. */
public final class RefusalsTest {
    private static final int BAD_ARG = RowOrders.BAD_ARG;
    private static final int[] NEITHER = {Integer.MIN_VALUE, -1000, -1, 2, 3, 256, Integer.MAX_VALUE};
    private static final Check CHECK = new Check();

    private static final int[][] WRONG_CODES = {
        {0, 1, 2, 3, 10, 11, 13, 20, 22, 23, 31, 102, 112, 120, 121, 123, 210, 212, 12345, -12, -21},
        {0, 12, 21, 23, 120, 122, 111, 124, 132 + 1000, 1234, 3210, 321321, -123, -321, 231 + 4096 * 1000},
        {0, 123, 321, 1233, 1230, 1235, 1134, 2340, 4444, 5123, 12345, 43210, 14321, -1234, -4321},
        {0, 1234, 4321, 12344, 12340, 12346, 11345, 55555, 54322, 60000, 99999, 112345, 123450, 543210, 123456,
            654321, -12345, -54321},
    };

    public static void main(String[] args) {
        for (int n = 2; n <= 5; n++) {
            RowOrders x = new RowOrders(n);
            x.reverse(0);
            x.exchange(1, 0, n - 1);
            int first = x.code(0);
            int second = x.code(1);
            wrongElementsAndOrders(x);
            unchanged(x, first, second);
            wrongPlaces(x, n);
            unchanged(x, first, second);
            wrongCodes(x, n);
            unchanged(x, first, second);
            wrongRanks(x, n);
            unchanged(x, first, second);
        }
        for (int n = 2; n <= 5; n++) {
            everyCode(n);
        }
        CHECK.end();
    }

    private static void unchanged(RowOrders x, int first, int second) {
        CHECK.due("after refused calls, code(0)", x.code(0), first);
        CHECK.due("after refused calls, code(1)", x.code(1), second);
    }

    private static void wrongElementsAndOrders(RowOrders x) {
        for (int v : NEITHER) {
            CHECK.due("put(" + v + ", 12)", x.put(v, 12), BAD_ARG);
            CHECK.due("put(" + v + ", 12345)", x.put(v, 12345), BAD_ARG);
            CHECK.due("exchange(" + v + ", 0, 1)", x.exchange(v, 0, 1), BAD_ARG);
            CHECK.due("invert(" + v + ")", x.invert(v), BAD_ARG);
            CHECK.due("reverse(" + v + ")", x.reverse(v), BAD_ARG);
            CHECK.due("code(" + v + ")", x.code(v), BAD_ARG);
            CHECK.due("inversions(" + v + ")", x.inversions(v), BAD_ARG);
            CHECK.due("rank(" + v + ")", x.rank(v), BAD_ARG);
            CHECK.due("below(" + v + ")", x.below(v), BAD_ARG);
            CHECK.due("interval(" + v + ")", x.interval(v), BAD_ARG);
            CHECK.due("ways(" + v + ")", x.ways(v), BAD_ARG);
            CHECK.due("sign(" + v + ")", x.sign(v), BAD_ARG);
            CHECK.due("steps(" + v + ", 0)", x.steps(v, 0), BAD_ARG);
            CHECK.due("steps(1, " + v + ")", x.steps(1, v), BAD_ARG);
            CHECK.due("steps(" + v + ", " + v + ")", x.steps(v, v), BAD_ARG);
        }
    }

    private static void wrongPlaces(RowOrders x, int n) {
        for (int v : new int[] {Integer.MIN_VALUE, -1, n, n + 1, 5, Integer.MAX_VALUE}) {
            for (int e = 0; e < 2; e++) {
                CHECK.due("exchange(" + e + ", " + v + ", 0)", x.exchange(e, v, 0), BAD_ARG);
                CHECK.due("exchange(" + e + ", 1, " + v + ")", x.exchange(e, 1, v), BAD_ARG);
                CHECK.due("exchange(" + e + ", " + v + ", " + v + ")", x.exchange(e, v, v), BAD_ARG);
            }
        }
    }

    private static void wrongCodes(RowOrders x, int n) {
        for (int code : WRONG_CODES[n - 2]) {
            CHECK.due("put(0, " + code + ")", x.put(0, code), BAD_ARG);
            CHECK.due("put(1, " + code + ")", x.put(1, code), BAD_ARG);
        }
        CHECK.due("put(0, least int)", x.put(0, Integer.MIN_VALUE), BAD_ARG);
        CHECK.due("put(0, greatest int)", x.put(0, Integer.MAX_VALUE), BAD_ARG);
    }

    private static void wrongRanks(RowOrders x, int n) {
        int[] count = {2, 6, 24, 120};
        for (int k : new int[] {Integer.MIN_VALUE, -2, -1, count[n - 2], count[n - 2] + 1, 120, Integer.MAX_VALUE}) {
            CHECK.due("permutation(" + k + ")", x.permutation(k), RowOrders.NONE);
        }
    }

    /** Of all the numbers in a wide range, put takes the codes of the permutations and no others. */
    private static void everyCode(int n) {
        Oracle oracle = new Oracle(n);
        RowOrders x = null;
        for (int code = -66666; code <= 666666; code++) {
            if ((code + 66666) % 500 == 0) {
                x = new RowOrders(n);
            }
            int due = oracle.all.contains(Integer.toString(code)) ? 0 : BAD_ARG;
            CHECK.due("put(0, " + code + ")", x.put(0, code), due);
        }
    }
}
