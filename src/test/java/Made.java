/** The objects that the edge tests start from, and a look over all that an object holds. */
final class Made {
    static final int LOW = Integer.MIN_VALUE;
    static final int HIGH = Integer.MAX_VALUE;

    // Beside the plain ones, those that a shift or a cell's index would take for a key.
    static final int[] TOO_SMALL = {-1, -2, -28, -31, -32, -33, -64, LOW + 31, LOW + 1, LOW};
    static final int[] TOO_LARGE = {32, 33, 36, 63, 64, 128, 159, 160, 1000, HIGH - 1, HIGH};

    private Made() { }

    /** Every key is there, key k with 100 + k; no version. */
    static VersionTree full() {
        VersionTree x = new VersionTree();
        for (int k = 0; k < 32; k++) {
            x.put(k, 100 + k);
        }
        return x;
    }

    /** Versions 1 to saves were saved, each with its number for key 5; the working table has -5. */
    static VersionTree saved(int saves) {
        VersionTree x = full();
        for (int n = 1; n <= saves; n++) {
            x.put(5, n);
            x.save();
        }
        x.put(5, -5);
        return x;
    }

    /** As saved(saves), then gone back to version n, then changed at key 5 as there. */
    static VersionTree goneBack(int saves, int n) {
        VersionTree x = saved(saves);
        x.goBack(n);
        x.put(5, -5);
        return x;
    }

    /** Compares all that the two hold, up to the number that a next save answers. */
    static void same(Due due, String after, VersionTree x, VersionTree other) {
        due.due("kept() after " + after, x.kept(), other.kept());
        for (int n = 0; n <= 7; n++) {
            due.due("count(" + n + ") after " + after, x.count(n), other.count(n));
            due.due("keys(" + n + ") after " + after, x.keys(n), other.keys(n));
            for (int k = 0; k < 32; k++) {
                due.due("get(" + n + ", " + k + ") after " + after, x.get(n, k), other.get(n, k));
            }
        }
        due.due("save() after " + after, x.save(), other.save());
        due.due("kept() after save() after " + after, x.kept(), other.kept());
    }
}
