/** Long runs of mixed calls on one object: no call leaves a trace in a later answer. */
public final class LongRunTest {
    private static final int CALLS = 512;
    private static final Check CHECK = new Check();

    private final Oracle oracle;
    private final RowOrders x;
    private final String[] element;
    private long state;

    private LongRunTest(Oracle oracle, long seed) {
        this.oracle = oracle;
        x = new RowOrders(oracle.n);
        element = new String[] {oracle.all.get(0), oracle.all.get(0)};
        state = seed;
    }

    public static void main(String[] args) {
        for (int n = 2; n <= 5; n++) {
            Oracle oracle = new Oracle(n);
            for (int seed = 1; seed <= 60; seed++) {
                LongRunTest run = new LongRunTest(oracle, seed);
                for (int call = 0; call < CALLS; call++) {
                    run.call("n " + n + ", seed " + seed + ", call " + call + ": ");
                }
            }
        }
        CHECK.end();
    }

    /** The same numbers in every run, from a plain congruence. */
    private int draw(int bound) {
        state = state * 6364136223846793005L + 1442695040888963407L;
        return (int) ((state >>> 33) % bound);
    }

    private void call(String at) {
        int which = draw(20);
        // Now and then the argument is out of its range: -1 or 2.
        int a = draw(16) == 0 ? draw(2) * 3 - 1 : draw(2);
        if (which < 10) {
            change(at, which, a);
        } else {
            ask(at, which, a);
        }
    }

    private boolean isBad(int a) {
        return a != 0 && a != 1;
    }

    private void become(String at, String call, int e, String due, int got) {
        boolean bad = isBad(e);
        if (!bad) {
            element[e] = due;
        }
        CHECK.due(at + call, got, bad ? RowOrders.BAD_ARG : Oracle.inversions(due));
    }

    private void change(String at, int which, int e) {
        String old = isBad(e) ? "" : element[e];
        switch (which) {
            case 0: case 1: case 2: case 3: {
                String p = oracle.all.get(draw(oracle.all.size()));
                CHECK.due(at + "put", x.put(e, Oracle.code(p)), isBad(e) ? RowOrders.BAD_ARG : 0);
                if (!isBad(e)) {
                    element[e] = p;
                }
                break;
            }
            case 4: case 5: {
                int i = draw(oracle.n);
                int j = draw(oracle.n);
                become(at, "exchange", e, isBad(e) ? "" : oracle.exchange(old, i, j), x.exchange(e, i, j));
                break;
            }
            case 6:
                become(at, "invert", e, isBad(e) ? "" : oracle.invert(old), x.invert(e));
                break;
            case 7:
                become(at, "reverse", e, isBad(e) ? "" : oracle.reverse(old), x.reverse(e));
                break;
            case 8:
                become(at, "multiply", 0, oracle.multiply(element[0], element[1]), x.multiply());
                break;
            default:
                if (draw(2) == 0) {
                    become(at, "meet", 0, oracle.meet(element[0], element[1]), x.meet());
                } else {
                    become(at, "join", 0, oracle.join(element[0], element[1]), x.join());
                }
        }
    }

    private void ask(String at, int which, int a) {
        boolean bad = isBad(a);
        String p = element[0];
        String q = element[1];
        switch (which) {
            case 10: case 11:
                CHECK.due(at + "code", x.code(a), bad ? RowOrders.BAD_ARG : Oracle.code(element[a]));
                break;
            case 12:
                CHECK.due(at + "inversions", x.inversions(a), bad ? RowOrders.BAD_ARG : Oracle.inversions(element[a]));
                break;
            case 13:
                CHECK.due(at + "rank", x.rank(a), bad ? RowOrders.BAD_ARG : oracle.all.indexOf(element[a]));
                break;
            case 14: {
                int k = draw(130) - 5;
                boolean none = k < 0 || k >= oracle.all.size();
                CHECK.due(at + "permutation", x.permutation(k),
                        none ? RowOrders.NONE : Oracle.code(oracle.all.get(k)));
                break;
            }
            case 15:
                CHECK.due(at + "below", x.below(a), bad ? RowOrders.BAD_ARG : oracle.below(p, q, a));
                break;
            case 16:
                CHECK.due(at + "interval", x.interval(a), bad ? RowOrders.BAD_ARG : oracle.interval(p, q, a));
                break;
            case 17:
                CHECK.due(at + "ways", x.ways(a), bad ? RowOrders.BAD_ARG : oracle.ways(p, q, a));
                break;
            case 18:
                CHECK.due(at + "sign", x.sign(a), bad ? RowOrders.BAD_ARG : oracle.sign(p, q, a));
                break;
            default: {
                int e = draw(2);
                CHECK.due(at + "steps", x.steps(e, a), bad ? RowOrders.BAD_ARG : oracle.steps(element[e], a));
            }
        }
    }
}
