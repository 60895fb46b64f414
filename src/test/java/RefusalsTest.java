import java.util.Set;
import java.util.TreeSet;

/**
 * "No call ever throws. A refused call answers the code named and changes nothing.": for any
 * int in each place, and in every state.
 */
public final class RefusalsTest {
    private static final int BAD_ARG = RowOrders.BAD_ARG;
    private static final int NONE = RowOrders.NONE;
    private static final int MOST_CALLS = 512;
    private static final int[] COUNTS = {0, 0, 2, 6, 24, 120};
    private static final int[] NEITHER = {Integer.MIN_VALUE, -1000, -1, 2, 3, 256, Integer.MAX_VALUE};
    private static final String[] BY_ELEMENT = {"put", "exchange", "invert", "reverse", "code", "inversions", "rank"};
    private static final String[] BY_ORDER = {"below", "interval", "ways", "sign"};
    private static final Check CHECK = new Check();

    private static final int[][] WRONG_CODES = {
        {},
        {},
        {0, 1, 2, 3, 10, 11, 13, 20, 22, 23, 31, 102, 112, 120, 121, 123, 210, 212, 12345, -12, -21},
        {0, 12, 21, 23, 120, 122, 111, 124, 1132, 1234, 3210, 321321, -123, -321, 4096231},
        {0, 123, 321, 1233, 1230, 1235, 1134, 2340, 4444, 5123, 12345, 43210, 14321, -1234, -4321},
        {0, 1234, 4321, 12344, 12340, 12346, 11345, 55555, 54322, 60000, 99999, 112345, 123450, 543210, 123456,
            654321, -12345, -54321},
    };

    private final int n;
    private final String[] start;
    private RowOrders x;
    private int calls;

    /** An object whose elements are these two permutations. */
    private RefusalsTest(String first, String second) {
        n = first.length();
        start = new String[] {first, second};
        renew();
    }

    public static void main(String[] args) {
        for (int n = 2; n <= 5; n++) {
            Oracle oracle = new Oracle(n);
            everyState(oracle);
            anyInt(oracle);
            wrongInTwoPlaces(oracle);
            everyCode(oracle);
        }
        CHECK.end();
    }

    private static void everyState(Oracle oracle) {
        int turn = 0;
        for (String first : oracle.all) {
            for (String second : oracle.all) {
                RefusalsTest state = new RefusalsTest(first, second);
                state.refuseAll(turn);
                // For n = 5 not every state, to save time: 11 is no divisor of 120, so all rows have their turn.
                if (oracle.n < 5 || turn % 11 == 0) {
                    state.answersAreAsBefore(turn);
                }
                turn++;
            }
        }
    }

    /** Every kind of refusal once or more, with wrong ints that are others from turn to turn. */
    private void refuseAll(int turn) {
        int wrong = NEITHER[turn % NEITHER.length];
        int code = Integer.parseInt(start[turn % 2]);
        CHECK.sentence("A refused call changes nothing: in every state, no element");
        for (String call : BY_ELEMENT) {
            refused(call, wrong, call.equals("put") ? code : 0, n - 1, BAD_ARG);
        }
        refused("steps", wrong, turn % 2, 0, BAD_ARG);
        CHECK.sentence("A refused call changes nothing: in every state, no order");
        for (String call : BY_ORDER) {
            refused(call, wrong, 0, 0, BAD_ARG);
        }
        refused("steps", turn % 2, wrong, 0, BAD_ARG);
        int[] noPlaces = noPlaces();
        int noPlace = noPlaces[turn % noPlaces.length];
        int wrongCode = WRONG_CODES[n][turn % WRONG_CODES[n].length];
        for (int e = 0; e < 2; e++) {
            CHECK.sentence("A refused call changes nothing: in every state, no place");
            refused("exchange", e, noPlace, turn % n, BAD_ARG);
            refused("exchange", e, turn % n, noPlace, BAD_ARG);
            CHECK.sentence("A refused call changes nothing: in every state, no permutation's code");
            refused("put", e, wrongCode, 0, BAD_ARG);
            refused("put", e, Integer.MIN_VALUE, 0, BAD_ARG);
            refused("put", e, Integer.MAX_VALUE, 0, BAD_ARG);
        }
        CHECK.sentence("A refused call changes nothing: in every state, no permutation's rank");
        refused("permutation", -1 - turn, 0, 0, NONE);
        refused("permutation", COUNTS[n] + turn, 0, 0, NONE);
    }

    private void answersAreAsBefore(int turn) {
        refuseAll(turn + 1);
        CHECK.sentence("A refused call changes nothing: all answers are those of an object without refusals");
        RowOrders other = new RefusalsTest(start[0], start[1]).x;
        for (int a = 0; a < 2; a++) {
            for (String call : new String[] {"rank", "inversions", "below", "interval", "ways", "sign"}) {
                asOther(other, call, a, 0);
            }
            asOther(other, "steps", a, 0);
            asOther(other, "steps", a, 1);
        }
        asOther(other, turn % 2 == 0 ? "meet" : "join", 0, 0);
        asOther(other, "code", 0, 0);
    }

    private void asOther(RowOrders other, String call, int a, int b) {
        CHECK.due(this + Model.told(call, a, b, 0), Model.ask(x, call, a, b, 0), Model.ask(other, call, a, b, 0));
    }

    private static void anyInt(Oracle oracle) {
        int n = oracle.n;
        String least = oracle.all.get(0);
        String greatest = oracle.all.get(oracle.all.size() - 1);
        String mixed = oracle.all.get(oracle.all.size() / 3);
        RefusalsTest[] states = {
            new RefusalsTest(least, least), new RefusalsTest(greatest, least), new RefusalsTest(mixed, greatest),
        };
        for (RefusalsTest state : states) {
            for (int v : manyInts()) {
                if (v != 0 && v != 1) {
                    state.refuseNeither(v);
                }
                if (v < 0 || v >= n) {
                    state.refusePlace(v);
                }
                if (v < 0 || v >= oracle.all.size()) {
                    CHECK.sentence("Promise 12: NONE if there is none, for any int");
                    state.refused("permutation", v, 0, 0, NONE);
                }
                if (!oracle.all.contains(Integer.toString(v))) {
                    CHECK.sentence("Promise 2: BAD_ARG if it is none's, for any int");
                    state.refused("put", 0, v, 0, BAD_ARG);
                    state.refused("put", 1, v, 0, BAD_ARG);
                }
            }
        }
    }

    private void refuseNeither(int v) {
        CHECK.sentence("an element e that is not 0 or 1 answers BAD_ARG, for any int");
        for (String call : BY_ELEMENT) {
            refused(call, v, call.equals("put") ? Integer.parseInt(start[0]) : 0, 1, BAD_ARG);
        }
        refused("steps", v, 0, 0, BAD_ARG);
        refused("steps", v, 1, 0, BAD_ARG);
        CHECK.sentence("an order o that is not 0 or 1 answers BAD_ARG, for any int");
        for (String call : BY_ORDER) {
            refused(call, v, 0, 0, BAD_ARG);
        }
        refused("steps", 0, v, 0, BAD_ARG);
        refused("steps", 1, v, 0, BAD_ARG);
    }

    private void refusePlace(int v) {
        CHECK.sentence("a place that is not 0 to n - 1 answers BAD_ARG, for any int");
        for (int e = 0; e < 2; e++) {
            for (int i = 0; i < n; i++) {
                refused("exchange", e, v, i, BAD_ARG);
                refused("exchange", e, i, v, BAD_ARG);
            }
            refused("exchange", e, v, v, BAD_ARG);
        }
    }

    /** More than one argument is wrong at once: the one tested first has its say, the others are not used. */
    private static void wrongInTwoPlaces(Oracle oracle) {
        String second = oracle.all.get(1);
        RefusalsTest state = new RefusalsTest(second, oracle.all.get(oracle.all.size() / 2));
        for (int v : NEITHER) {
            CHECK.sentence("an element is tested first: with a code that is none's");
            for (int code : WRONG_CODES[oracle.n]) {
                state.refused("put", v, code, 0, BAD_ARG);
            }
            CHECK.sentence("an element and an order are tested first: both wrong");
            for (int w : NEITHER) {
                state.refused("steps", v, w, 0, BAD_ARG);
            }
            CHECK.sentence("an element is tested first: then the places, all wrong");
            for (int i : state.noPlaces()) {
                for (int j : state.noPlaces()) {
                    state.refused("exchange", v, i, j, BAD_ARG);
                }
            }
        }
        CHECK.sentence("then a place that is not 0 to n - 1 answers BAD_ARG: both wrong");
        for (int i : state.noPlaces()) {
            for (int j : state.noPlaces()) {
                state.refused("exchange", 0, i, j, BAD_ARG);
                state.refused("exchange", 1, i, j, BAD_ARG);
            }
        }
    }

    /** Of all the numbers in a wide range, put takes the codes of the permutations and no others. */
    private static void everyCode(Oracle oracle) {
        CHECK.sentence("Promise 2: BAD_ARG if it is none's. Otherwise 0: every number of up to six digits");
        RowOrders x = null;
        for (int code = -66666; code <= 666666; code++) {
            if ((code + 66666) % MOST_CALLS == 0) {
                x = new RowOrders(oracle.n);
            }
            int due = oracle.all.contains(Integer.toString(code)) ? 0 : BAD_ARG;
            CHECK.due("put(0, " + code + ")", x.put(0, code), due);
        }
    }

    /** The ints about zero, about the powers of two and of ten, and such that look like codes in part of their bits. */
    private static Set<Integer> manyInts() {
        Set<Integer> ints = new TreeSet<>();
        for (int v = -130; v <= 130; v++) {
            ints.add(v);
            ints.add(Integer.MIN_VALUE + 130 + v);
            ints.add(Integer.MAX_VALUE - 130 + v);
        }
        for (int bit = 0; bit < 32; bit++) {
            for (int v = -2; v <= 2; v++) {
                ints.add((1 << bit) + v);
            }
            for (int code : new int[] {12, 21, 123, 321, 1234, 4321, 12345, 54321}) {
                ints.add((1 << bit) ^ code);
                ints.add(-((1 << bit) ^ code));
            }
        }
        for (int ten = 10; ten <= 100_000_000; ten *= 10) {
            for (int v = -1; v <= 1; v++) {
                ints.add(ten + v);
                ints.add(-ten + v);
            }
            for (int code : new int[] {12, 123, 1234, 12345}) {
                ints.add(ten * 10 + code);
                ints.add(ten * code);
            }
        }
        return ints;
    }

    private int[] noPlaces() {
        return new int[] {Integer.MIN_VALUE, -n, -1, n, n + 1, 5, 6, 256, Integer.MAX_VALUE};
    }

    private void refused(String call, int a, int b, int c, int due) {
        String told = this + Model.told(call, a, b, c);
        if (calls + 3 > MOST_CALLS) {
            renew();
        }
        calls += 3;
        CHECK.due(told, Model.ask(x, call, a, b, c), due);
        CHECK.due(told + ", then code(0)", x.code(0), Integer.parseInt(start[0]));
        CHECK.due(told + ", then code(1)", x.code(1), Integer.parseInt(start[1]));
    }

    private void renew() {
        x = new RowOrders(n);
        x.put(0, Integer.parseInt(start[0]));
        x.put(1, Integer.parseInt(start[1]));
        calls = 2;
    }

    @Override
    public String toString() {
        return start[0] + " " + start[1] + ": ";
    }
}
