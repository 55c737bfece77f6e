/** Promises 7 to 16: the calls that look into the working table and the kept versions. */
public final class LooksTest {
    private static final Due DUE = new Due();
    private static final int NONE = -1;
    private static final int LOW = Integer.MIN_VALUE;
    private static final int HIGH = Integer.MAX_VALUE;

    // Stand for nothing in the object that sample() makes; 1 was kept once.
    private static final int[] NOTHING = {1, 6, 7, 8, 9, -1, -2, -3, -4, LOW, HIGH};

    private LooksTest() { }

    public static void main(String[] args) {
        promise7Has();
        promise8Get();
        promise9Count();
        promise10From();
        promise11UpTo();
        promise12KeyAt();
        promise13Rank();
        promise14Sum();
        promise14SumWraps();
        promise15Difference();
        promise15DifferenceOfAbsentAndZero();
        promise16Keys();
        looksOfNothing();
        looksChangeNothing();
        DUE.end();
    }

    /**
     * Versions 2 to 5 are kept. Working table: 0 -> 5, 4 -> 0, 10 -> -7, 31 -> 9.
     * 2: empty. 3: 4 -> 40. 4: 4 -> 40, 10 -> -7, 17 -> 1. 5: 0 -> 5, 4 -> 41, 10 -> -7, 31 -> 8.
     */
    private static VersionTree sample() {
        VersionTree x = new VersionTree();
        x.put(20, 2);
        x.save();
        x.remove(20);
        x.save();
        x.put(4, 40);
        x.save();
        x.put(10, -7);
        x.put(17, 1);
        x.save();
        x.remove(17);
        x.put(0, 5);
        x.put(4, 41);
        x.put(31, 8);
        x.save();
        x.put(4, 0);
        x.put(31, 9);
        return x;
    }

    private static void promise7Has() {
        VersionTree x = sample();
        for (int k = -2; k <= 65; k++) {
            DUE.due("7: has(0, " + k + ")", x.has(0, k), k == 0 || k == 4 || k == 10 || k == 31);
            DUE.due("7: has(2, " + k + ")", x.has(2, k), false);
            DUE.due("7: has(3, " + k + ")", x.has(3, k), k == 4);
            DUE.due("7: has(4, " + k + ")", x.has(4, k), k == 4 || k == 10 || k == 17);
        }
        DUE.due("7: has(0, LOW)", x.has(0, LOW), false);
        DUE.due("7: has(0, HIGH)", x.has(0, HIGH), false);
        // -32 and 36 would meet keys 0 and 4 if a shift alone picked the bit.
        DUE.due("7: has(0, -32)", x.has(0, -32), false);
        DUE.due("7: has(5, 36)", x.has(5, 36), false);
    }

    private static void promise8Get() {
        VersionTree x = sample();
        DUE.due("8: get(0, 0)", x.get(0, 0), 5);
        DUE.due("8: get(0, 4)", x.get(0, 4), 0);
        DUE.due("8: get(0, 10)", x.get(0, 10), -7);
        DUE.due("8: get(0, 31)", x.get(0, 31), 9);
        DUE.due("8: get(0, 17)", x.get(0, 17), 0);
        DUE.due("8: get(0, 20)", x.get(0, 20), 0);
        DUE.due("8: get(2, 4)", x.get(2, 4), 0);
        DUE.due("8: get(2, 20)", x.get(2, 20), 0);
        DUE.due("8: get(3, 4)", x.get(3, 4), 40);
        DUE.due("8: get(4, 17)", x.get(4, 17), 1);
        DUE.due("8: get(5, 4)", x.get(5, 4), 41);
        DUE.due("8: get(5, 31)", x.get(5, 31), 8);
        int[] wrong = {-1, 32, 36, -28, 160, LOW, HIGH};
        for (int k : wrong) {
            DUE.due("8: get(0, " + k + ")", x.get(0, k), 0);
            DUE.due("8: get(5, " + k + ")", x.get(5, k), 0);
        }
    }

    private static void promise9Count() {
        VersionTree x = sample();
        DUE.due("9: count(0)", x.count(0), 4);
        DUE.due("9: count(2)", x.count(2), 0);
        DUE.due("9: count(3)", x.count(3), 1);
        DUE.due("9: count(4)", x.count(4), 3);
        DUE.due("9: count(5)", x.count(5), 4);
        VersionTree full = new VersionTree();
        for (int k = 31; k >= 0; k--) {
            full.put(k, k);
        }
        full.save();
        full.remove(0);
        DUE.due("9: count(1) of a full one", full.count(1), 32);
        DUE.due("9: count(0) with one less", full.count(0), 31);
    }

    private static void promise10From() {
        VersionTree x = sample();
        for (int k = -3; k <= 35; k++) {
            int working = k <= 0 ? 0 : k <= 4 ? 4 : k <= 10 ? 10 : k <= 31 ? 31 : NONE;
            DUE.due("10: from(0, " + k + ")", x.from(0, k), working);
            int fourth = k <= 4 ? 4 : k <= 10 ? 10 : k <= 17 ? 17 : NONE;
            DUE.due("10: from(4, " + k + ")", x.from(4, k), fourth);
            DUE.due("10: from(2, " + k + ")", x.from(2, k), NONE);
        }
        DUE.due("10: from(0, LOW)", x.from(0, LOW), 0);
        DUE.due("10: from(3, LOW)", x.from(3, LOW), 4);
        DUE.due("10: from(0, HIGH)", x.from(0, HIGH), NONE);
    }

    private static void promise11UpTo() {
        VersionTree x = sample();
        for (int k = -3; k <= 35; k++) {
            int working = k >= 31 ? 31 : k >= 10 ? 10 : k >= 4 ? 4 : k >= 0 ? 0 : NONE;
            DUE.due("11: upTo(0, " + k + ")", x.upTo(0, k), working);
            int fourth = k >= 17 ? 17 : k >= 10 ? 10 : k >= 4 ? 4 : NONE;
            DUE.due("11: upTo(4, " + k + ")", x.upTo(4, k), fourth);
            DUE.due("11: upTo(2, " + k + ")", x.upTo(2, k), NONE);
        }
        DUE.due("11: upTo(0, LOW)", x.upTo(0, LOW), NONE);
        DUE.due("11: upTo(0, HIGH)", x.upTo(0, HIGH), 31);
        DUE.due("11: upTo(3, HIGH)", x.upTo(3, HIGH), 4);
    }

    private static void promise12KeyAt() {
        VersionTree x = sample();
        int[] working = {0, 4, 10, 31};
        int[] fourth = {4, 10, 17};
        for (int i = -3; i <= 34; i++) {
            int due = i >= 0 && i < working.length ? working[i] : NONE;
            DUE.due("12: keyAt(0, " + i + ")", x.keyAt(0, i), due);
            due = i >= 0 && i < fourth.length ? fourth[i] : NONE;
            DUE.due("12: keyAt(4, " + i + ")", x.keyAt(4, i), due);
            DUE.due("12: keyAt(2, " + i + ")", x.keyAt(2, i), NONE);
        }
        DUE.due("12: keyAt(0, LOW)", x.keyAt(0, LOW), NONE);
        DUE.due("12: keyAt(0, HIGH)", x.keyAt(0, HIGH), NONE);
        VersionTree full = new VersionTree();
        for (int k = 0; k < 32; k++) {
            full.put(k, 0);
        }
        DUE.due("12: keyAt(0, 31) of a full one", full.keyAt(0, 31), 31);
        DUE.due("12: keyAt(0, 32) of a full one", full.keyAt(0, 32), NONE);
    }

    private static void promise13Rank() {
        VersionTree x = sample();
        for (int k = -3; k <= 35; k++) {
            int working = k > 31 ? 4 : k > 10 ? 3 : k > 4 ? 2 : k > 0 ? 1 : 0;
            DUE.due("13: rank(0, " + k + ")", x.rank(0, k), working);
            int fourth = k > 17 ? 3 : k > 10 ? 2 : k > 4 ? 1 : 0;
            DUE.due("13: rank(4, " + k + ")", x.rank(4, k), fourth);
            DUE.due("13: rank(2, " + k + ")", x.rank(2, k), 0);
        }
        DUE.due("13: rank(0, LOW)", x.rank(0, LOW), 0);
        DUE.due("13: rank(0, HIGH)", x.rank(0, HIGH), 4);
    }

    private static void promise14Sum() {
        VersionTree x = sample();
        DUE.due("14: sum(0, 0, 31)", x.sum(0, 0, 31), 7);
        DUE.due("14: sum(0, LOW, HIGH)", x.sum(0, LOW, HIGH), 7);
        DUE.due("14: sum(0, -1, 32)", x.sum(0, -1, 32), 7);
        DUE.due("14: sum(0, 0, 0)", x.sum(0, 0, 0), 5);
        DUE.due("14: sum(0, 1, 30)", x.sum(0, 1, 30), -7);
        DUE.due("14: sum(0, 10, 31)", x.sum(0, 10, 31), 2);
        DUE.due("14: sum(0, 11, 31)", x.sum(0, 11, 31), 9);
        DUE.due("14: sum(0, 31, 31)", x.sum(0, 31, 31), 9);
        DUE.due("14: sum(0, 11, 30)", x.sum(0, 11, 30), 0);
        DUE.due("14: sum(0, 31, 0)", x.sum(0, 31, 0), 0);
        DUE.due("14: sum(0, HIGH, LOW)", x.sum(0, HIGH, LOW), 0);
        DUE.due("14: sum(0, 32, HIGH)", x.sum(0, 32, HIGH), 0);
        DUE.due("14: sum(0, LOW, -1)", x.sum(0, LOW, -1), 0);
        DUE.due("14: sum(2, 0, 31)", x.sum(2, 0, 31), 0);
        DUE.due("14: sum(3, 0, 31)", x.sum(3, 0, 31), 40);
        DUE.due("14: sum(4, 4, 17)", x.sum(4, 4, 17), 34);
        DUE.due("14: sum(4, 5, 16)", x.sum(4, 5, 16), -7);
        DUE.due("14: sum(5, 0, 31)", x.sum(5, 0, 31), 47);
    }

    private static void promise14SumWraps() {
        VersionTree x = new VersionTree();
        x.put(1, HIGH);
        x.put(2, HIGH);
        x.put(3, 3);
        x.save();
        x.put(1, LOW);
        x.put(2, -1);
        DUE.due("14: sum(1, 1, 2)", x.sum(1, 1, 2), -2);
        DUE.due("14: sum(1, 1, 3)", x.sum(1, 1, 3), 1);
        DUE.due("14: sum(0, 1, 2)", x.sum(0, 1, 2), HIGH);
    }

    private static void promise15Difference() {
        VersionTree x = sample();
        int[][] rows = {
            {0, 0, 0}, {2, 2, 0}, {5, 5, 0},
            {0, 5, 1 << 4 | 1 << 31},
            {0, 4, 1 | 1 << 4 | 1 << 17 | 1 << 31},
            {0, 3, 1 | 1 << 4 | 1 << 10 | 1 << 31},
            {0, 2, 1 | 1 << 4 | 1 << 10 | 1 << 31},
            {5, 4, 1 | 1 << 4 | 1 << 17 | 1 << 31},
            {4, 3, 1 << 10 | 1 << 17},
            {3, 2, 1 << 4},
        };
        for (int[] row : rows) {
            String pair = row[0] + " and " + row[1];
            DUE.due("15: difference of " + pair, x.difference(row[0], row[1]), row[2]);
            DUE.due("15: difference of " + pair + " turned", x.difference(row[1], row[0]), row[2]);
        }
    }

    private static void promise15DifferenceOfAbsentAndZero() {
        VersionTree x = new VersionTree();
        x.put(3, 0);
        x.put(5, 50);
        x.save();
        x.remove(3);
        x.remove(5);
        DUE.due("15: 0 and absent differ", x.difference(0, 1), 1 << 3 | 1 << 5);
        x.save();
        x.put(5, 51);
        x.remove(5);
        // What a key's value was before it went is nothing to compare.
        DUE.due("15: absent and absent are the same", x.difference(0, 2), 0);
    }

    private static void promise16Keys() {
        VersionTree x = sample();
        DUE.due("16: keys(0)", x.keys(0), 1 | 1 << 4 | 1 << 10 | 1 << 31);
        DUE.due("16: keys(2)", x.keys(2), 0);
        DUE.due("16: keys(3)", x.keys(3), 1 << 4);
        DUE.due("16: keys(4)", x.keys(4), 1 << 4 | 1 << 10 | 1 << 17);
        DUE.due("16: keys(5)", x.keys(5), 1 | 1 << 4 | 1 << 10 | 1 << 31);
        VersionTree full = new VersionTree();
        for (int k = 0; k < 32; k++) {
            full.put(k, 0);
        }
        DUE.due("16: keys(0) of a full one", full.keys(0), -1);
    }

    private static void looksOfNothing() {
        VersionTree x = sample();
        for (int n : NOTHING) {
            DUE.due("7: has(" + n + ", 4)", x.has(n, 4), false);
            DUE.due("8: get(" + n + ", 4)", x.get(n, 4), 0);
            DUE.due("9: count(" + n + ")", x.count(n), NONE);
            DUE.due("10: from(" + n + ", 0)", x.from(n, 0), NONE);
            DUE.due("11: upTo(" + n + ", 31)", x.upTo(n, 31), NONE);
            DUE.due("12: keyAt(" + n + ", 0)", x.keyAt(n, 0), NONE);
            DUE.due("13: rank(" + n + ", 31)", x.rank(n, 31), NONE);
            DUE.due("13: rank(" + n + ", -1)", x.rank(n, -1), NONE);
            DUE.due("14: sum(" + n + ", 0, 31)", x.sum(n, 0, 31), 0);
            DUE.due("15: difference(" + n + ", 0)", x.difference(n, 0), 0);
            DUE.due("15: difference(0, " + n + ")", x.difference(0, n), 0);
            DUE.due("15: difference(" + n + ", 4)", x.difference(n, 4), 0);
            DUE.due("15: difference(4, " + n + ")", x.difference(4, n), 0);
            DUE.due("15: difference(" + n + ", same)", x.difference(n, n), 0);
            DUE.due("16: keys(" + n + ")", x.keys(n), 0);
        }
    }

    private static void looksChangeNothing() {
        VersionTree x = sample();
        looksAt(x, 0);
        looksAt(x, 3);
        looksAt(x, 9);
        VersionTree fresh = sample();
        DUE.due("7-16: kept() after looks", x.kept(), fresh.kept());
        for (int n = 0; n <= 6; n++) {
            DUE.due("7-16: keys(" + n + ") after looks", x.keys(n), fresh.keys(n));
            for (int k = 0; k < 32; k++) {
                DUE.due("7-16: get(" + n + ", " + k + ") after looks", x.get(n, k), fresh.get(n, k));
            }
        }
        DUE.due("7-16: save() after looks", x.save(), 6);
    }

    private static void looksAt(VersionTree x, int n) {
        x.has(n, 4);
        x.get(n, 4);
        x.count(n);
        x.from(n, 5);
        x.upTo(n, 5);
        x.keyAt(n, 0);
        x.rank(n, 9);
        x.sum(n, 0, 31);
        x.difference(n, 4);
        x.keys(n);
    }
}
