/** Promises 7, 8 and 13 to 17: what is told of the two orders. */
public final class OrdersTest {
    private static final Check CHECK = new Check();

    public static void main(String[] args) {
        ordinaryRun();
        for (int n = 2; n <= 5; n++) {
            Oracle oracle = new Oracle(n);
            for (String p : oracle.all) {
                stepsOf(oracle, p);
                for (String q : oracle.all) {
                    pair(oracle, p, q);
                }
            }
        }
        CHECK.end();
    }

    /** Answers found by hand for the permutations of three numbers. */
    private static void ordinaryRun() {
        RowOrders x = new RowOrders(3);
        x.put(0, 132);
        x.put(1, 312);
        CHECK.due("132 312: below(0)", x.below(0), 1);
        CHECK.due("132 312: below(1)", x.below(1), 1);
        x.put(1, 231);
        CHECK.due("132 231: below(0)", x.below(0), 1);
        CHECK.due("132 231: below(1)", x.below(1), 0);
        CHECK.due("132 231: interval(0)", x.interval(0), 2);
        CHECK.due("132 231: interval(1)", x.interval(1), 0);
        CHECK.due("132 231: ways(0)", x.ways(0), 1);
        CHECK.due("132 231: ways(1)", x.ways(1), 0);
        CHECK.due("132 231: sign(0)", x.sign(0), -1);
        CHECK.due("132 231: sign(1)", x.sign(1), 0);
        CHECK.due("132: steps(0, 0)", x.steps(0, 0), 2);
        CHECK.due("132: steps(0, 1)", x.steps(0, 1), 1);
        CHECK.due("132 231: join()", x.join(), 3);
        CHECK.due("132 231 joined: code(0)", x.code(0), 321);
        CHECK.due("321: steps(0, 0)", x.steps(0, 0), 0);
        x.put(0, 312);
        CHECK.due("312 231: meet()", x.meet(), 0);
        CHECK.due("312 231 met: code(0)", x.code(0), 123);
        x.put(1, 321);
        CHECK.due("123 321: interval(0)", x.interval(0), 6);
        CHECK.due("123 321: ways(0)", x.ways(0), 4);
        CHECK.due("123 321: ways(1)", x.ways(1), 2);
        CHECK.due("123 321: sign(0)", x.sign(0), -1);
        CHECK.due("123 321: sign(1)", x.sign(1), 1);
        CHECK.due("321: steps(1, 1)", x.steps(1, 1), 0);
    }

    private static void stepsOf(Oracle oracle, String p) {
        RowOrders x = new RowOrders(oracle.n);
        for (int e = 0; e < 2; e++) {
            x.put(e, Oracle.code(p));
            for (int o = 0; o < 2; o++) {
                CHECK.due(p + ": steps(" + e + ", " + o + ")", x.steps(e, o), oracle.steps(p, o));
            }
            x.put(e, Oracle.code(oracle.all.get(0)));
        }
    }

    private static void pair(Oracle oracle, String p, String q) {
        RowOrders x = new RowOrders(oracle.n);
        x.put(0, Oracle.code(p));
        x.put(1, Oracle.code(q));
        String of = p + " " + q + ": ";
        for (int o = 0; o < 2; o++) {
            CHECK.due(of + "below(" + o + ")", x.below(o), oracle.below(p, q, o));
            CHECK.due(of + "interval(" + o + ")", x.interval(o), oracle.interval(p, q, o));
            CHECK.due(of + "ways(" + o + ")", x.ways(o), oracle.ways(p, q, o));
            CHECK.due(of + "sign(" + o + ")", x.sign(o), oracle.sign(p, q, o));
        }
        CHECK.due(of + "element 0 stays", x.code(0), Oracle.code(p));
        String met = oracle.meet(p, q);
        CHECK.due(of + "meet()", x.meet(), Oracle.inversions(met));
        CHECK.due(of + "meet(), then code(0)", x.code(0), Oracle.code(met));
        x.put(0, Oracle.code(p));
        String joined = oracle.join(p, q);
        CHECK.due(of + "join()", x.join(), Oracle.inversions(joined));
        CHECK.due(of + "join(), then code(0)", x.code(0), Oracle.code(joined));
        CHECK.due(of + "element 1 stays", x.code(1), Oracle.code(q));
    }
}
