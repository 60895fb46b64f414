/**
 * "An object is used for at most 512 calls after it has been made": whatever the calls
 * before were, taken or refused, every call up to the 512th answers as due.
 */
public final class LongRunTest {
    private static final int CALLS = 512;
    private static final Check CHECK = new Check();

    private final Oracle oracle;
    private final RowOrders x;
    private final Model model;
    private final String name;
    private int made = 0;
    private long state;

    private LongRunTest(Oracle oracle, String name, long seed) {
        this.oracle = oracle;
        this.name = "n " + oracle.n + ", " + name;
        x = new RowOrders(oracle.n);
        model = new Model(oracle);
        state = seed;
    }

    public static void main(String[] args) {
        for (int n = 2; n <= 5; n++) {
            Oracle oracle = new Oracle(n);
            CHECK.sentence("at most 512 calls: mixed ones");
            for (int seed = 1; seed <= 60; seed++) {
                new LongRunTest(oracle, "seed " + seed, seed).mixedUpTo(CALLS);
            }
            CHECK.sentence("at most 512 calls: all of them the same");
            for (String call : Model.CALLS) {
                new LongRunTest(oracle, "all " + call, n).sameUpTo(CALLS, call);
                for (int e = 0; e < 2; e++) {
                    LongRunTest run = new LongRunTest(oracle, "put and then all " + call, n);
                    run.call("put", e, Oracle.code(oracle.all.get(oracle.all.size() - 1)), 0);
                    run.sameUpTo(CALLS, call);
                }
            }
            CHECK.sentence("at most 512 calls: every call as the 512th, after mixed ones");
            for (String call : Model.CALLS) {
                LongRunTest run = new LongRunTest(oracle, call + " last", n);
                run.mixedUpTo(CALLS - 1);
                run.sameUpTo(CALLS, call);
            }
            CHECK.sentence("at most 512 calls: every call as the 512th, after refused ones");
            for (String call : Model.CALLS) {
                LongRunTest run = new LongRunTest(oracle, call + " after refused ones", n);
                run.putBoth();
                run.refusedUpTo(CALLS - 1);
                run.sameUpTo(CALLS, call);
            }
            CHECK.sentence("at most 512 calls: what every call as the 511th did, told by the 512th");
            for (String call : Model.CALLS) {
                for (int e = 0; e < 2; e++) {
                    LongRunTest run = new LongRunTest(oracle, call + " last but one", n + e);
                    run.mixedUpTo(CALLS - 2);
                    run.sameUpTo(CALLS - 1, call);
                    run.call("code", e, 0, 0);
                }
            }
        }
        CHECK.end();
    }

    private void mixedUpTo(int end) {
        while (made < end) {
            // A put is as frequent as some others together, that the elements stay mixed.
            int which = draw(Model.CALLS.length + 4);
            draw(which < Model.CALLS.length ? Model.CALLS[which] : "put", 16);
        }
    }

    private void sameUpTo(int end, String call) {
        while (made < end) {
            draw(call, Integer.MAX_VALUE);
        }
    }

    private void refusedUpTo(int end) {
        while (made < end) {
            String call = Model.CALLS[draw(Model.CALLS.length)];
            if (!call.equals("multiply") && !call.equals("meet") && !call.equals("join")) {
                call(call, -1 - draw(3), drawCode(), draw(oracle.n));
            }
        }
    }

    private void putBoth() {
        call("put", 0, drawCode(), 0);
        call("put", 1, drawCode(), 0);
    }

    /** A call with drawn arguments, one in some of them with its first argument out of range. */
    private void draw(String call, int some) {
        int a = draw(some) == 0 ? draw(2) * 3 - 1 : draw(2);
        switch (call) {
            case "put":
                call(call, a, drawCode(), 0);
                break;
            case "permutation":
                call(call, draw(130) - 5, 0, 0);
                break;
            case "exchange":
                call(call, a, draw(oracle.n), draw(oracle.n));
                break;
            default:
                call(call, a, draw(2), 0);
        }
    }

    private int drawCode() {
        return Oracle.code(oracle.all.get(draw(oracle.all.size())));
    }

    private void call(String call, int a, int b, int c) {
        made++;
        String at = name + ", call " + made + ": ";
        CHECK.due(at + Model.told(call, a, b, c), Model.ask(x, call, a, b, c), model.due(call, a, b, c));
    }

    /** The same numbers in every run, from a plain congruence. */
    private int draw(int bound) {
        state = state * 6364136223846793005L + 1442695040888963407L;
        return (int) ((state >>> 33) % bound);
    }
}
