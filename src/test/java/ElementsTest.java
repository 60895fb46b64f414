/** Promises 1 to 6 and 9 to 12: the elements, what changes one, and what is told of one. */
public final class ElementsTest {
    private static final Check CHECK = new Check();

    public static void main(String[] args) {
        newObjects();
        ordinaryRun();
        for (int n = 2; n <= 5; n++) {
            everyPermutation(new Oracle(n));
        }
        CHECK.end();
    }

    private static void newObjects() {
        int[] numbers = {Integer.MIN_VALUE, -1, 0, 1, 2, 3, 4, 5, 6, 120, Integer.MAX_VALUE};
        int[] codes = {12, 12, 12, 12, 12, 123, 1234, 12345, 12345, 12345, 12345};
        for (int t = 0; t < numbers.length; t++) {
            RowOrders x = new RowOrders(numbers[t]);
            String made = "new RowOrders(" + numbers[t] + "): ";
            CHECK.due(made + "code(0)", x.code(0), codes[t]);
            CHECK.due(made + "code(1)", x.code(1), codes[t]);
            CHECK.due(made + "rank(0)", x.rank(0), 0);
            CHECK.due(made + "inversions(1)", x.inversions(1), 0);
        }
    }

    private static void ordinaryRun() {
        RowOrders x = new RowOrders(4);
        CHECK.due("put(0, 2413)", x.put(0, 2413), 0);
        CHECK.due("put leaves element 1: code(1)", x.code(1), 1234);
        CHECK.due("inversions(0)", x.inversions(0), 3);
        CHECK.due("rank(0)", x.rank(0), 10);
        CHECK.due("permutation(10)", x.permutation(10), 2413);
        CHECK.due("exchange(0, 0, 2)", x.exchange(0, 0, 2), 2);
        CHECK.due("code(0)", x.code(0), 1423);
        CHECK.due("exchange(0, 3, 1)", x.exchange(0, 3, 1), 1);
        CHECK.due("code(0)", x.code(0), 1324);
        CHECK.due("exchange(0, 2, 2)", x.exchange(0, 2, 2), 1);
        CHECK.due("code(0)", x.code(0), 1324);
        CHECK.due("put(1, 2341)", x.put(1, 2341), 0);
        CHECK.due("invert(1)", x.invert(1), 3);
        CHECK.due("code(1)", x.code(1), 4123);
        CHECK.due("reverse(1)", x.reverse(1), 3);
        CHECK.due("code(1)", x.code(1), 3214);
        CHECK.due("multiply()", x.multiply(), 2);
        CHECK.due("code(0)", x.code(0), 2314);
        CHECK.due("multiply leaves element 1: code(1)", x.code(1), 3214);
    }

    private static void everyPermutation(Oracle oracle) {
        int n = oracle.n;
        CHECK.due("permutation(-1)", new RowOrders(n).permutation(-1), RowOrders.NONE);
        CHECK.due("permutation(n!)", new RowOrders(n).permutation(oracle.all.size()), RowOrders.NONE);
        for (int k = 0; k < oracle.all.size(); k++) {
            String p = oracle.all.get(k);
            for (int e = 0; e < 2; e++) {
                tellsAndTurns(oracle, p, k, e);
            }
            multipliesAll(oracle, p);
        }
    }

    private static void tellsAndTurns(Oracle oracle, String p, int k, int e) {
        RowOrders x = new RowOrders(oracle.n);
        String of = "element " + e + " = " + p + ": ";
        int start = x.code(1 - e);
        CHECK.due(of + "put", x.put(e, Oracle.code(p)), 0);
        holds(x, e, p, of + "put");
        CHECK.due(of + "rank", x.rank(e), k);
        CHECK.due(of + "inversions", x.inversions(e), Oracle.inversions(p));
        CHECK.due("permutation(" + k + ")", x.permutation(k), Oracle.code(p));
        for (int i = 0; i < oracle.n; i++) {
            for (int j = 0; j < oracle.n; j++) {
                String call = of + "exchange " + i + " " + j;
                String due = oracle.exchange(p, i, j);
                CHECK.due(call, x.exchange(e, i, j), Oracle.inversions(due));
                holds(x, e, due, call);
                x.put(e, Oracle.code(p));
            }
        }
        CHECK.due(of + "invert", x.invert(e), Oracle.inversions(oracle.invert(p)));
        holds(x, e, oracle.invert(p), of + "invert");
        x.put(e, Oracle.code(p));
        CHECK.due(of + "reverse", x.reverse(e), Oracle.inversions(oracle.reverse(p)));
        holds(x, e, oracle.reverse(p), of + "reverse");
        CHECK.due(of + "the other element", x.code(1 - e), start);
    }

    private static void multipliesAll(Oracle oracle, String p) {
        RowOrders x = new RowOrders(oracle.n);
        for (String q : oracle.all) {
            x.put(0, Oracle.code(p));
            x.put(1, Oracle.code(q));
            String due = oracle.multiply(p, q);
            CHECK.due(p + " " + q + " multiply", x.multiply(), Oracle.inversions(due));
            holds(x, 0, due, p + " " + q + " multiply");
        }
        CHECK.due(p + " multiply leaves element 1", x.rank(1), oracle.all.size() - 1);
    }

    private static void holds(RowOrders x, int e, String due, String after) {
        CHECK.due(after + ", then code", x.code(e), Oracle.code(due));
    }
}
