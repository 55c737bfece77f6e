/** All promises together: long runs of mixed calls, each answer compared with that of Model. */
public final class ModelTest {
    private static final Due DUE = new Due();
    private static final int RUNS = 2000;
    private static final int CALLS = 512;
    private static final int[] WILD = {-1, 32, 33, -32, 64, 1000, -1000,
        Integer.MIN_VALUE, Integer.MIN_VALUE + 1, Integer.MAX_VALUE, Integer.MAX_VALUE - 1};

    private final VersionTree tree = new VersionTree();
    private final Model model = new Model();
    private final int run;
    private long state;
    private int last = 0;

    private ModelTest(int run) {
        this.run = run;
        this.state = run * 7919L + 17;
    }

    public static void main(String[] args) {
        for (int run = 0; run < RUNS; run++) {
            ModelTest test = new ModelTest(run);
            for (int call = 0; call < CALLS; call++) {
                test.oneCall(call);
            }
        }
        DUE.end();
    }

    /** The same numbers in every run of the test, so that a failure can be seen again. */
    private int below(int bound) {
        state = state * 6364136223846793005L + 1442695040888963407L;
        return (int) ((state >>> 33) % bound);
    }

    private int someKey() {
        return below(12) == 0 ? WILD[below(WILD.length)] : below(32);
    }

    private int someValue() {
        return below(4) == 0 ? WILD[below(WILD.length)] : below(3);
    }

    private int someVersion() {
        int pick = below(16);
        return pick == 0 ? WILD[below(WILD.length)] : pick < 5 ? 0 : last + 1 - below(7);
    }

    private void oneCall(int call) {
        // Runs differ in how often they change the table, so that full and bare tables both come.
        int changes = 20 + run % 60;
        if (below(100) < changes) {
            change(call);
        } else {
            look(call);
        }
    }

    private void change(int call) {
        int k = someKey();
        int v = someValue();
        int n = someVersion();
        int pick = below(20);
        if (pick < 5 + run % 7) {
            told(call, "put(" + k + ", " + v + ")", bit(tree.put(k, v)), bit(model.put(k, v)));
        } else if (pick < 14) {
            told(call, "remove(" + k + ")", bit(tree.remove(k)), bit(model.remove(k)));
        } else if (pick < 18) {
            last = model.save();
            told(call, "save()", tree.save(), last);
        } else {
            boolean went = model.goBack(n);
            told(call, "goBack(" + n + ")", bit(tree.goBack(n)), bit(went));
            last = went ? n : last;
        }
    }

    private void look(int call) {
        int n = someVersion();
        int m = someVersion();
        int k = someKey();
        int b = someKey();
        String nk = "(" + n + ", " + k + ")";
        switch (below(11)) {
            case 0 -> told(call, "kept()", tree.kept(), model.kept());
            case 1 -> told(call, "has" + nk, bit(tree.has(n, k)), bit(model.has(n, k)));
            case 2 -> told(call, "get" + nk, tree.get(n, k), model.get(n, k));
            case 3 -> told(call, "count(" + n + ")", tree.count(n), model.count(n));
            case 4 -> told(call, "from" + nk, tree.from(n, k), model.from(n, k));
            case 5 -> told(call, "upTo" + nk, tree.upTo(n, k), model.upTo(n, k));
            case 6 -> told(call, "keyAt" + nk, tree.keyAt(n, k), model.keyAt(n, k));
            case 7 -> told(call, "rank" + nk, tree.rank(n, k), model.rank(n, k));
            case 8 -> told(call, "sum" + nk + " to " + b, tree.sum(n, k, b), model.sum(n, k, b));
            case 9 -> told(call, "difference(" + n + ", " + m + ")",
                tree.difference(n, m), model.difference(n, m));
            default -> told(call, "keys(" + n + ")", tree.keys(n), model.keys(n));
        }
    }

    private static int bit(boolean answer) {
        return answer ? 1 : 0;
    }

    private void told(int call, String text, int got, int want) {
        DUE.due("run " + run + ", call " + call + ": " + text, got, want);
    }
}
