/** What every call of the document is due to answer, refusals too, in the words of an oracle. */
final class Model {
    static final String[] CALLS = {
        "put", "exchange", "invert", "reverse", "multiply", "meet", "join", "code", "inversions", "rank",
        "permutation", "below", "interval", "ways", "sign", "steps",
    };

    private static final int NEVER_DUE = Integer.MIN_VALUE;

    private final Oracle oracle;
    private final String[] element;

    Model(Oracle oracle) {
        this.oracle = oracle;
        element = new String[] {oracle.all.get(0), oracle.all.get(0)};
    }

    /** Asks the class; a, b and c are its arguments, as far as the call has so many. */
    static int ask(RowOrders x, String call, int a, int b, int c) {
        try {
            return answer(x, call, a, b, c);
        } catch (RuntimeException thrown) {
            System.out.println(told(call, a, b, c) + " threw " + thrown);
            return NEVER_DUE;
        }
    }

    private static int answer(RowOrders x, String call, int a, int b, int c) {
        switch (call) {
            case "put": return x.put(a, b);
            case "exchange": return x.exchange(a, b, c);
            case "invert": return x.invert(a);
            case "reverse": return x.reverse(a);
            case "multiply": return x.multiply();
            case "meet": return x.meet();
            case "join": return x.join();
            case "code": return x.code(a);
            case "inversions": return x.inversions(a);
            case "rank": return x.rank(a);
            case "permutation": return x.permutation(a);
            case "below": return x.below(a);
            case "interval": return x.interval(a);
            case "ways": return x.ways(a);
            case "sign": return x.sign(a);
            case "steps": return x.steps(a, b);
            default: throw new IllegalArgumentException(call);
        }
    }

    static String told(String call, int a, int b, int c) {
        switch (call) {
            case "multiply": case "meet": case "join":
                return call + "()";
            case "exchange":
                return call + "(" + a + ", " + b + ", " + c + ")";
            case "put": case "steps":
                return call + "(" + a + ", " + b + ")";
            default:
                return call + "(" + a + ")";
        }
    }

    long due(String call, int a, int b, int c) {
        switch (call) {
            case "multiply":
                return become(0, oracle.multiply(element[0], element[1]));
            case "meet":
                return become(0, oracle.meet(element[0], element[1]));
            case "join":
                return become(0, oracle.join(element[0], element[1]));
            case "permutation":
                return a < 0 || a >= oracle.all.size() ? RowOrders.NONE : Oracle.code(oracle.all.get(a));
            default:
                return a == 0 || a == 1 ? dueOfOneOrTwo(call, a, b, c) : RowOrders.BAD_ARG;
        }
    }

    private long dueOfOneOrTwo(String call, int a, int b, int c) {
        switch (call) {
            case "put":
                return put(a, Integer.toString(b));
            case "exchange":
                return !isPlace(b) || !isPlace(c) ? RowOrders.BAD_ARG : become(a, oracle.exchange(element[a], b, c));
            case "invert":
                return become(a, oracle.invert(element[a]));
            case "reverse":
                return become(a, oracle.reverse(element[a]));
            case "code":
                return Oracle.code(element[a]);
            case "inversions":
                return Oracle.inversions(element[a]);
            case "rank":
                return oracle.all.indexOf(element[a]);
            case "below":
                return oracle.below(element[0], element[1], a);
            case "interval":
                return oracle.interval(element[0], element[1], a);
            case "ways":
                return oracle.ways(element[0], element[1], a);
            case "sign":
                return oracle.sign(element[0], element[1], a);
            default:
                return b == 0 || b == 1 ? oracle.steps(element[a], b) : RowOrders.BAD_ARG;
        }
    }

    private long put(int e, String digits) {
        if (!oracle.all.contains(digits)) {
            return RowOrders.BAD_ARG;
        }
        element[e] = digits;
        return 0;
    }

    private long become(int e, String p) {
        element[e] = p;
        return Oracle.inversions(p);
    }

    private boolean isPlace(int i) {
        return 0 <= i && i < oracle.n;
    }
}
