/**
 * Each sentence of the document that names a boundary case, with a test of its own. What is
 * due stands here as it can be read off the document, without the oracle's answers. (The
 * sentences about refused calls are in RefusalsTest, the one about 512 calls in LongRunTest.)
 */
public final class EdgesTest {
    private static final Check CHECK = new Check();
    private static final int[] LEAST = {0, 0, 12, 123, 1234, 12345};
    private static final int[] GREATEST = {0, 0, 21, 321, 4321, 54321};
    private static final int[] MOST_INVERSIONS = {0, 0, 1, 3, 6, 10};
    private static final int[] COUNTS = {0, 0, 2, 6, 24, 120};

    public static void main(String[] args) {
        CHECK.part(EdgesTest::clampedFromBelow);
        CHECK.part(EdgesTest::clampedFromAbove);
        CHECK.part(EdgesTest::notClamped);
        for (int numbers = 2; numbers <= 5; numbers++) {
            int n = numbers;
            Oracle oracle = new Oracle(n);
            CHECK.part(() -> putEveryCode(oracle));
            CHECK.part(() -> exchangeAPlaceWithItself(oracle));
            CHECK.part(() -> exchangeGreaterPlaceFirst(oracle));
            CHECK.part(() -> exchangeAtTheEnds(n));
            CHECK.part(() -> invertAtTheEnds(n));
            CHECK.part(() -> invertTwice(oracle));
            CHECK.part(() -> reverseAtTheEnds(n));
            CHECK.part(() -> multiplyAtTheEnds(oracle));
            CHECK.part(() -> meetIsThereAlways(oracle));
            CHECK.part(() -> joinIsThereAlways(oracle));
            CHECK.part(() -> meetAndJoinAtTheEnds(oracle));
            CHECK.part(() -> tellAtTheEnds(n));
            CHECK.part(() -> permutationAtTheEnds(n));
            CHECK.part(() -> rankAndPermutationAgree(oracle));
            CHECK.part(() -> belowItself(oracle));
            CHECK.part(() -> belowByAnyAmount(oracle));
            CHECK.part(() -> intervalAtTheEnds(n));
            CHECK.part(() -> notBelow(oracle));
            CHECK.part(() -> waysAtTheEnds(n));
            CHECK.part(() -> onlySingleSteps(oracle));
            CHECK.part(() -> signsAddUpToNothing(oracle));
            CHECK.part(() -> signAtTheEnds(n));
            CHECK.part(() -> stepsAtTheEnds(n));
        }
        CHECK.end();
    }

    private static RowOrders with(int n, int first, int second) {
        RowOrders x = new RowOrders(n);
        x.put(0, first);
        x.put(1, second);
        return x;
    }

    private static RowOrders with(String first, String second) {
        return with(first.length(), Oracle.code(first), Oracle.code(second));
    }

    private static void holds(String call, RowOrders x, int first, int second) {
        CHECK.due(call + ", then code(0)", x.code(0), first);
        CHECK.due(call + ", then code(1)", x.code(1), second);
    }

    private static void clampedFromBelow() {
        CHECK.sentence("Promise 1: below 2 becomes 2");
        for (int numbers : new int[] {1, 0, -1, -2, -3, -5, -120, -65534, -65531, Integer.MIN_VALUE + 4,
            Integer.MIN_VALUE + 1, Integer.MIN_VALUE}) {
            isNewOf("new RowOrders(" + numbers + ")", new RowOrders(numbers), 2);
        }
    }

    private static void clampedFromAbove() {
        CHECK.sentence("Promise 1: above 5 becomes 5");
        for (int numbers : new int[] {6, 7, 8, 9, 10, 120, 258, 65538, 1 << 30, Integer.MAX_VALUE - 1,
            Integer.MAX_VALUE}) {
            isNewOf("new RowOrders(" + numbers + ")", new RowOrders(numbers), 5);
        }
    }

    private static void notClamped() {
        CHECK.sentence("Promise 1: 2 to 5 stay");
        for (int numbers = 2; numbers <= 5; numbers++) {
            isNewOf("new RowOrders(" + numbers + ")", new RowOrders(numbers), numbers);
        }
    }

    /** It is an object of n numbers in all that tells n: elements, places, codes, ranks and steps. */
    private static void isNewOf(String made, RowOrders x, int n) {
        holds(made, x, LEAST[n], LEAST[n]);
        CHECK.due(made + ": inversions(0)", x.inversions(0), 0);
        CHECK.due(made + ": inversions(1)", x.inversions(1), 0);
        CHECK.due(made + ": rank(0)", x.rank(0), 0);
        CHECK.due(made + ": rank(1)", x.rank(1), 0);
        CHECK.due(made + ": permutation(n! - 1)", x.permutation(COUNTS[n] - 1), GREATEST[n]);
        CHECK.due(made + ": permutation(n!)", x.permutation(COUNTS[n]), RowOrders.NONE);
        CHECK.due(made + ": exchange(0, 0, n)", x.exchange(0, 0, n), RowOrders.BAD_ARG);
        CHECK.due(made + ": steps(0, 0)", x.steps(0, 0), n - 1);
        CHECK.due(made + ": put(1, greatest)", x.put(1, GREATEST[n]), 0);
        CHECK.due(made + ": interval(0)", x.interval(0), COUNTS[n]);
        for (int other = 2; other <= 5; other++) {
            CHECK.due(made + ": put(0, " + LEAST[other] + ")", x.put(0, LEAST[other]),
                    other == n ? 0 : RowOrders.BAD_ARG);
        }
        CHECK.due(made + ": reverse(0)", x.reverse(0), MOST_INVERSIONS[n]);
        holds(made + ": reverse(0)", x, GREATEST[n], GREATEST[n]);
    }

    private static void putEveryCode(Oracle oracle) {
        CHECK.sentence("Promise 2: element e becomes the permutation with this code. Otherwise 0.");
        for (String p : oracle.all) {
            int code = Oracle.code(p);
            RowOrders x = new RowOrders(oracle.n);
            CHECK.due("put(0, " + p + ")", x.put(0, code), 0);
            holds("put(0, " + p + ")", x, code, LEAST[oracle.n]);
            CHECK.due("put(1, " + p + ")", x.put(1, code), 0);
            holds("put(1, " + p + ")", x, code, code);
            CHECK.due("put(1, " + p + ") again", x.put(1, code), 0);
            holds("put(1, " + p + ") again", x, code, code);
        }
    }

    private static void exchangeAPlaceWithItself(Oracle oracle) {
        CHECK.sentence("Promise 3: places i and j that are the same");
        for (String p : oracle.all) {
            for (int i = 0; i < oracle.n; i++) {
                for (int e = 0; e < 2; e++) {
                    RowOrders x = with(p, p);
                    String call = p + ": exchange(" + e + ", " + i + ", " + i + ")";
                    CHECK.due(call, x.exchange(e, i, i), Oracle.inversions(p));
                    holds(call, x, Oracle.code(p), Oracle.code(p));
                }
            }
        }
    }

    private static void exchangeGreaterPlaceFirst(Oracle oracle) {
        CHECK.sentence("Promise 3: places i and j, i the greater");
        for (String p : oracle.all) {
            for (int i = 0; i < oracle.n; i++) {
                for (int j = 0; j < i; j++) {
                    String due = p.substring(0, j) + p.charAt(i) + p.substring(j + 1, i) + p.charAt(j)
                            + p.substring(i + 1);
                    String call = p + ": exchange(e, " + i + ", " + j + ")";
                    RowOrders x = with(p, p);
                    CHECK.due(call + ", e = 0", x.exchange(0, i, j), Oracle.inversions(due));
                    holds(call + ", e = 0", x, Oracle.code(due), Oracle.code(p));
                    CHECK.due(call + ", e = 1", x.exchange(1, i, j), Oracle.inversions(due));
                    holds(call + ", e = 1", x, Oracle.code(due), Oracle.code(due));
                    CHECK.due(call + ", and back", x.exchange(0, j, i), Oracle.inversions(p));
                    holds(call + ", and back", x, Oracle.code(p), Oracle.code(due));
                }
            }
        }
    }

    private static void exchangeAtTheEnds(int n) {
        CHECK.sentence("Promise 3: the first place and the last one, n - 1");
        int[] firstAndLast = {0, 0, 21, 321, 4231, 52341};
        int[] lastTwo = {0, 0, 12, 312, 4213, 52314};
        RowOrders x = new RowOrders(n);
        CHECK.due("exchange(1, 0, n - 1)", x.exchange(1, 0, n - 1), 2 * n - 3);
        holds("exchange(1, 0, n - 1)", x, LEAST[n], firstAndLast[n]);
        CHECK.due("exchange(1, n - 2, n - 1)", x.exchange(1, n - 2, n - 1), 2 * n - 4);
        holds("exchange(1, n - 2, n - 1)", x, LEAST[n], lastTwo[n]);
    }

    private static void invertAtTheEnds(int n) {
        CHECK.sentence("Promise 4: invert the least and the greatest permutation");
        for (int e = 0; e < 2; e++) {
            RowOrders x = with(n, LEAST[n], LEAST[n]);
            CHECK.due("least: invert(" + e + ")", x.invert(e), 0);
            holds("least: invert(" + e + ")", x, LEAST[n], LEAST[n]);
            x = with(n, GREATEST[n], GREATEST[n]);
            CHECK.due("greatest: invert(" + e + ")", x.invert(e), MOST_INVERSIONS[n]);
            holds("greatest: invert(" + e + ")", x, GREATEST[n], GREATEST[n]);
        }
    }

    private static void invertTwice(Oracle oracle) {
        CHECK.sentence("Promise 4: i + 1 in place p - 1 where it had p in place i");
        for (String p : oracle.all) {
            RowOrders x = with(p, p);
            CHECK.due(p + ": invert(0)", x.invert(0), Oracle.inversions(p));
            String inverse = Integer.toString(x.code(0));
            for (int i = 0; i < oracle.n; i++) {
                CHECK.due(p + ": invert(0), then place " + p.charAt(i) + " - 1",
                        inverse.charAt(p.charAt(i) - '1') - '0', i + 1);
            }
            CHECK.due(p + ": multiply() with its inverse", x.multiply(), 0);
            holds(p + ": multiply() with its inverse", x, LEAST[oracle.n], Oracle.code(p));
        }
    }

    private static void reverseAtTheEnds(int n) {
        CHECK.sentence("Promise 5: turn round the least and the greatest permutation");
        for (int e = 0; e < 2; e++) {
            RowOrders x = new RowOrders(n);
            CHECK.due("least: reverse(" + e + ")", x.reverse(e), MOST_INVERSIONS[n]);
            holds("least: reverse(" + e + ")", x, e == 0 ? GREATEST[n] : LEAST[n], e == 1 ? GREATEST[n] : LEAST[n]);
            CHECK.due("greatest: reverse(" + e + ")", x.reverse(e), 0);
            holds("greatest: reverse(" + e + ")", x, LEAST[n], LEAST[n]);
        }
    }

    private static void multiplyAtTheEnds(Oracle oracle) {
        CHECK.sentence("Promise 6: multiply with the least and the greatest permutation");
        int n = oracle.n;
        for (String p : oracle.all) {
            int code = Oracle.code(p);
            RowOrders x = with(n, code, LEAST[n]);
            CHECK.due(p + " and least: multiply()", x.multiply(), Oracle.inversions(p));
            holds(p + " and least: multiply()", x, code, LEAST[n]);
            x = with(n, LEAST[n], code);
            CHECK.due("least and " + p + ": multiply()", x.multiply(), Oracle.inversions(p));
            holds("least and " + p + ": multiply()", x, code, code);
            // The greatest one sends place i to n - 1 - i, or the number v to n + 1 - v.
            x = with(n, code, GREATEST[n]);
            CHECK.due(p + " and greatest: multiply()", x.multiply(), MOST_INVERSIONS[n] - Oracle.inversions(p));
            holds(p + " and greatest: multiply()", x, reversed(p), GREATEST[n]);
            x = with(n, GREATEST[n], code);
            CHECK.due("greatest and " + p + ": multiply()", x.multiply(), MOST_INVERSIONS[n] - Oracle.inversions(p));
            holds("greatest and " + p + ": multiply()", x, LEAST[n] + GREATEST[n] - code, code);
        }
        RowOrders x = with(n, GREATEST[n], GREATEST[n]);
        CHECK.due("greatest and greatest: multiply()", x.multiply(), 0);
        holds("greatest and greatest: multiply()", x, LEAST[n], GREATEST[n]);
    }

    private static int reversed(String p) {
        return Integer.parseInt(new StringBuilder(p).reverse().toString());
    }

    private static void meetIsThereAlways(Oracle oracle) {
        CHECK.sentence("Promise 7: below both elements, and all below both below it. (There is one always.)");
        boolean[][] below = belowByTheClass(oracle, 1);
        for (int p = 0; p < oracle.all.size(); p++) {
            for (int q = 0; q < oracle.all.size(); q++) {
                RowOrders x = with(oracle.all.get(p), oracle.all.get(q));
                String call = oracle.all.get(p) + " " + oracle.all.get(q) + ": meet()";
                CHECK.due(call + " less inversions(0) then", x.meet() - x.inversions(0), 0);
                int met = x.rank(0);
                CHECK.due(call + ", element 1", x.rank(1), q);
                boolean fits = below[met][p] && below[met][q];
                for (int r = 0; r < oracle.all.size(); r++) {
                    fits &= !(below[r][p] && below[r][q]) || below[r][met];
                }
                CHECK.due(call + " is the greatest below both", fits ? 1 : 0, 1);
            }
        }
    }

    private static void joinIsThereAlways(Oracle oracle) {
        CHECK.sentence("Promise 8: both below it, and it below all that both are below. (There is one always.)");
        boolean[][] below = belowByTheClass(oracle, 1);
        for (int p = 0; p < oracle.all.size(); p++) {
            for (int q = 0; q < oracle.all.size(); q++) {
                RowOrders x = with(oracle.all.get(p), oracle.all.get(q));
                String call = oracle.all.get(p) + " " + oracle.all.get(q) + ": join()";
                CHECK.due(call + " less inversions(0) then", x.join() - x.inversions(0), 0);
                int joined = x.rank(0);
                CHECK.due(call + ", element 1", x.rank(1), q);
                boolean fits = below[p][joined] && below[q][joined];
                for (int r = 0; r < oracle.all.size(); r++) {
                    fits &= !(below[p][r] && below[q][r]) || below[joined][r];
                }
                CHECK.due(call + " is the least that both are below", fits ? 1 : 0, 1);
            }
        }
    }

    private static boolean[][] belowByTheClass(Oracle oracle, int o) {
        int size = oracle.all.size();
        boolean[][] below = new boolean[size][size];
        for (int p = 0; p < size; p++) {
            RowOrders x = with(oracle.all.get(p), oracle.all.get(p));
            for (int q = 0; q < size; q++) {
                x.put(1, Oracle.code(oracle.all.get(q)));
                below[p][q] = x.below(o) == 1;
            }
        }
        return below;
    }

    private static void meetAndJoinAtTheEnds(Oracle oracle) {
        CHECK.sentence("Promises 7 and 8: with itself, the least and the greatest permutation");
        int n = oracle.n;
        for (String p : oracle.all) {
            int code = Oracle.code(p);
            meetsAndJoins(n, code, code, code, code);
            meetsAndJoins(n, code, LEAST[n], LEAST[n], code);
            meetsAndJoins(n, LEAST[n], code, LEAST[n], code);
            meetsAndJoins(n, code, GREATEST[n], code, GREATEST[n]);
            meetsAndJoins(n, GREATEST[n], code, code, GREATEST[n]);
            meetsAndJoins(n, code, reversed(p), LEAST[n], GREATEST[n]);
        }
    }

    private static void meetsAndJoins(int n, int first, int second, int met, int joined) {
        String call = first + " " + second + ": ";
        RowOrders x = with(n, first, second);
        CHECK.due(call + "meet()", x.meet(), Oracle.inversions(Integer.toString(met)));
        holds(call + "meet()", x, met, second);
        x = with(n, first, second);
        CHECK.due(call + "join()", x.join(), Oracle.inversions(Integer.toString(joined)));
        holds(call + "join()", x, joined, second);
    }

    private static void tellAtTheEnds(int n) {
        for (int e = 0; e < 2; e++) {
            RowOrders x = with(n, LEAST[n], LEAST[n]);
            x.put(1 - e, GREATEST[n]);
            CHECK.sentence("Promise 9: the code of the least and the greatest permutation");
            CHECK.due("least: code(" + e + ")", x.code(e), LEAST[n]);
            CHECK.due("greatest: code(" + (1 - e) + ")", x.code(1 - e), GREATEST[n]);
            CHECK.sentence("Promise 10: the inversions of the least and the greatest permutation");
            CHECK.due("least: inversions(" + e + ")", x.inversions(e), 0);
            CHECK.due("greatest: inversions(" + (1 - e) + ")", x.inversions(1 - e), MOST_INVERSIONS[n]);
            CHECK.sentence("Promise 11: the rank of the least and the greatest permutation");
            CHECK.due("least: rank(" + e + ")", x.rank(e), 0);
            CHECK.due("greatest: rank(" + (1 - e) + ")", x.rank(1 - e), COUNTS[n] - 1);
        }
    }

    private static void permutationAtTheEnds(int n) {
        int[] second = {0, 0, 21, 132, 1243, 12354};
        int[] lastButOne = {0, 0, 12, 312, 4312, 54312};
        RowOrders x = with(n, second[n], lastButOne[n]);
        CHECK.sentence("Promise 12: the permutation with 0 and with n! - 1 others of lesser codes");
        CHECK.due("permutation(0)", x.permutation(0), LEAST[n]);
        CHECK.due("permutation(1)", x.permutation(1), second[n]);
        CHECK.due("permutation(n! - 2)", x.permutation(COUNTS[n] - 2), lastButOne[n]);
        CHECK.due("permutation(n! - 1)", x.permutation(COUNTS[n] - 1), GREATEST[n]);
        CHECK.sentence("Promise 12: NONE if there is none");
        CHECK.due("permutation(-1)", x.permutation(-1), RowOrders.NONE);
        CHECK.due("permutation(n!)", x.permutation(COUNTS[n]), RowOrders.NONE);
        CHECK.due("permutation(n! + 1)", x.permutation(COUNTS[n] + 1), RowOrders.NONE);
        CHECK.due("permutation(120)", x.permutation(120), RowOrders.NONE);
        CHECK.due("permutation(least int)", x.permutation(Integer.MIN_VALUE), RowOrders.NONE);
        CHECK.due("permutation(greatest int)", x.permutation(Integer.MAX_VALUE), RowOrders.NONE);
        holds("permutation(k)", x, second[n], lastButOne[n]);
    }

    private static void rankAndPermutationAgree(Oracle oracle) {
        CHECK.sentence("Promises 11 and 12: as many have a lesser code, for every permutation");
        for (String p : oracle.all) {
            int lesser = 0;
            for (String q : oracle.all) {
                lesser += Oracle.code(q) < Oracle.code(p) ? 1 : 0;
            }
            RowOrders x = with(p, p);
            CHECK.due(p + ": rank(0)", x.rank(0), lesser);
            CHECK.due(p + ": rank(1)", x.rank(1), lesser);
            CHECK.due("permutation(" + lesser + ")", x.permutation(lesser), Oracle.code(p));
        }
    }

    private static void belowItself(Oracle oracle) {
        for (String p : oracle.all) {
            RowOrders x = with(p, p);
            for (int o = 0; o < 2; o++) {
                String of = p + " and itself, order " + o + ": ";
                CHECK.sentence("P is below itself, too (promise 13)");
                CHECK.due(of + "below", x.below(o), 1);
                CHECK.sentence("P is below itself, too (promise 14)");
                CHECK.due(of + "interval", x.interval(o), 1);
                CHECK.sentence("Promise 15: 1 if they are the same");
                CHECK.due(of + "ways", x.ways(o), 1);
                CHECK.sentence("The SIGN is 1 if P is Q (promise 16)");
                CHECK.due(of + "sign", x.sign(o), 1);
            }
        }
    }

    /** A step is known by hand: the lesser number stands before the greater one, whatever is between. */
    private static void belowByAnyAmount(Oracle oracle) {
        CHECK.sentence("A step must make the number of inversions greater, by any amount (promise 13)");
        for (String p : oracle.all) {
            for (int i = 0; i < oracle.n; i++) {
                for (int j = i + 1; j < oracle.n; j++) {
                    boolean raises = p.charAt(i) < p.charAt(j);
                    String q = oracle.exchange(p, i, j);
                    RowOrders x = with(p, q);
                    CHECK.due(p + " " + q + ": below(0)", x.below(0), raises ? 1 : 0);
                    CHECK.due(p + " " + q + ": below(1)", x.below(1), raises && undoesNone(p, i, j) ? 1 : 0);
                }
            }
        }
    }

    /**
     * Steps of order 1 never undo an inverted pair of numbers, but this exchange would do so
     * with a number between that is less than the one in place i or greater than the one in j.
     */
    private static boolean undoesNone(String p, int i, int j) {
        for (int m = i + 1; m < j; m++) {
            if (p.charAt(m) < p.charAt(i) || p.charAt(m) > p.charAt(j)) {
                return false;
            }
        }
        return true;
    }

    private static void intervalAtTheEnds(int n) {
        CHECK.sentence("Promise 14: from the least to the greatest permutation it is all of them");
        RowOrders x = with(n, LEAST[n], GREATEST[n]);
        CHECK.due("interval(0)", x.interval(0), COUNTS[n]);
        CHECK.due("interval(1)", x.interval(1), COUNTS[n]);
    }

    private static void notBelow(Oracle oracle) {
        for (String p : oracle.all) {
            for (String q : oracle.all) {
                // Steps make the inversions more, so this alone keeps P from being below Q.
                if (!p.equals(q) && Oracle.inversions(p) >= Oracle.inversions(q)) {
                    RowOrders x = with(p, q);
                    isNotBelow(p + " " + q + ", order 0: ", x, 0);
                    isNotBelow(p + " " + q + ", order 1: ", x, 1);
                }
            }
        }
        if (oracle.n > 2) {
            belowInOneOrderOnly(oracle.n);
        }
    }

    /** The first permutation has 3 before 2, and the second, though it has more inversions, has not. */
    private static void belowInOneOrderOnly(int n) {
        int[] first = {0, 0, 0, 132, 1324, 13245};
        int[] second = {0, 0, 0, 231, 2341, 23451};
        RowOrders x = with(n, first[n], second[n]);
        isNotBelow(first[n] + " " + second[n] + ", order 1: ", x, 1);
        CHECK.sentence("Promise 13: 1 if element 0 is below element 1 in order o");
        CHECK.due(first[n] + " " + second[n] + ", order 0: below", x.below(0), 1);
    }

    private static void isNotBelow(String of, RowOrders x, int o) {
        CHECK.sentence("Promise 13: else 0");
        CHECK.due(of + "below", x.below(o), 0);
        CHECK.sentence("Promise 14: 0 if element 0 is not below element 1");
        CHECK.due(of + "interval", x.interval(o), 0);
        CHECK.sentence("Promise 15: 0 if in none");
        CHECK.due(of + "ways", x.ways(o), 0);
        CHECK.sentence("The SIGN is 0 if P is not below Q (promise 16)");
        CHECK.due(of + "sign", x.sign(o), 0);
    }

    private static void waysAtTheEnds(int n) {
        CHECK.sentence("Promise 15: from the least to the greatest permutation");
        // Found apart from the class and the oracle, by going every way to its end.
        int[] byAnyTwo = {0, 0, 1, 4, 168, 130560};
        int[] byNeighbours = {0, 0, 1, 2, 16, 768};
        RowOrders x = with(n, LEAST[n], GREATEST[n]);
        CHECK.due("ways(0)", x.ways(0), byAnyTwo[n]);
        CHECK.due("ways(1)", x.ways(1), byNeighbours[n]);
    }

    private static void onlySingleSteps(Oracle oracle) {
        CHECK.sentence("A SINGLE STEP makes the number of inversions greater by just 1 (promises 15 and 17)");
        for (String p : oracle.all) {
            int[] single = new int[2];
            for (int i = 0; i < oracle.n; i++) {
                for (int j = i + 1; j < oracle.n; j++) {
                    String q = oracle.exchange(p, i, j);
                    boolean byOne = Oracle.inversions(q) == Oracle.inversions(p) + 1;
                    single[0] += byOne ? 1 : 0;
                    single[1] += byOne && j == i + 1 ? 1 : 0;
                    if (byOne) {
                        RowOrders x = with(p, q);
                        CHECK.due(p + " " + q + ": ways(0)", x.ways(0), 1);
                        CHECK.due(p + " " + q + ": ways(1)", x.ways(1), j == i + 1 ? 1 : 0);
                    }
                }
            }
            for (int e = 0; e < 2; e++) {
                for (int o = 0; o < 2; o++) {
                    CHECK.due(p + ": steps(" + e + ", " + o + ")", with(p, p).steps(e, o), single[o]);
                }
            }
        }
    }

    private static void signsAddUpToNothing(Oracle oracle) {
        CHECK.sentence("The SIGN is else less the sum of the signs over the interval except Q (promise 16)");
        int size = oracle.all.size();
        for (int o = 0; o < 2; o++) {
            boolean[][] below = belowByTheClass(oracle, o);
            for (int p = 0; p < size; p++) {
                int[] signs = signsByTheClass(oracle, p, o);
                for (int q = 0; q < size; q++) {
                    int sum = 0;
                    for (int r = 0; r < size; r++) {
                        sum += below[p][r] && below[r][q] ? signs[r] : 0;
                    }
                    CHECK.due(oracle.all.get(p) + " " + oracle.all.get(q) + ": sum of sign(" + o + "), Q too",
                            sum, p == q ? 1 : 0);
                }
            }
        }
    }

    private static int[] signsByTheClass(Oracle oracle, int p, int o) {
        int[] signs = new int[oracle.all.size()];
        RowOrders x = with(oracle.all.get(p), oracle.all.get(p));
        for (int r = 0; r < signs.length; r++) {
            x.put(1, Oracle.code(oracle.all.get(r)));
            signs[r] = x.sign(o);
        }
        return signs;
    }

    private static void signAtTheEnds(int n) {
        CHECK.sentence("Promise 16: from the least to the greatest permutation");
        RowOrders x = with(n, LEAST[n], GREATEST[n]);
        CHECK.due("sign(0)", x.sign(0), MOST_INVERSIONS[n] % 2 == 0 ? 1 : -1);
        CHECK.due("sign(1)", x.sign(1), n % 2 == 0 ? -1 : 1);
    }

    private static void stepsAtTheEnds(int n) {
        CHECK.sentence("Promise 17: from the least permutation and from the greatest one");
        for (int e = 0; e < 2; e++) {
            RowOrders x = with(n, GREATEST[n], GREATEST[n]);
            x.put(e, LEAST[n]);
            for (int o = 0; o < 2; o++) {
                CHECK.due("least: steps(" + e + ", " + o + ")", x.steps(e, o), n - 1);
                CHECK.due("greatest: steps(" + (1 - e) + ", " + o + ")", x.steps(1 - e, o), 0);
            }
        }
    }
}
