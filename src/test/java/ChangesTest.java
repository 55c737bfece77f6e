/** Promises 1 to 6 and 17: a new object, the calls that change it, and what is kept. */
public final class ChangesTest {
    private static final Due DUE = new Due();
    private static final int[] WRONG_KEYS = {-1, 32, 33, 63, 64, -32, -31, 1000,
        Integer.MIN_VALUE, Integer.MAX_VALUE};

    private ChangesTest() { }

    public static void main(String[] args) {
        promise1NewObject();
        promise1ObjectsAreApart();
        promise2Put();
        promise2PutWrongKeys();
        promise3Remove();
        promise3RemoveThenPut();
        promise4Save();
        promise4SavedTableStays();
        promise4ManySaves();
        promise5GoBack();
        promise5NumbersGivenOutAgain();
        promise5RefusedNumbers();
        promise5EvictedStaysGone();
        promise6Kept();
        promise17RefusedChangesNothing();
        DUE.end();
    }

    private static void promise1NewObject() {
        VersionTree x = new VersionTree();
        DUE.due("1: kept()", x.kept(), 0);
        DUE.due("1: count(0)", x.count(0), 0);
        DUE.due("1: keys(0)", x.keys(0), 0);
        for (int k = 0; k < 32; k++) {
            DUE.due("1: has(0, " + k + ")", x.has(0, k), false);
            DUE.due("1: get(0, " + k + ")", x.get(0, k), 0);
        }
        for (int n = -5; n <= 5; n++) {
            if (n != 0) {
                DUE.due("1: count(" + n + ")", x.count(n), VersionTree.NONE);
                DUE.due("1: goBack(" + n + ")", x.goBack(n), false);
            }
        }
        DUE.due("1: goBack(0)", x.goBack(0), false);
        DUE.due("1: save()", x.save(), 1);
        DUE.due("1: NONE", VersionTree.NONE, -1);
    }

    private static void promise1ObjectsAreApart() {
        VersionTree x = new VersionTree();
        x.put(3, 4);
        x.save();
        VersionTree y = new VersionTree();
        DUE.due("1: keys(0) of another object", y.keys(0), 0);
        DUE.due("1: kept() of another object", y.kept(), 0);
        y.put(3, 5);
        y.save();
        y.save();
        DUE.due("1: get(0, 3) of the first object", x.get(0, 3), 4);
        DUE.due("1: kept() of the first object", x.kept(), 1001);
    }

    private static void promise2Put() {
        VersionTree x = new VersionTree();
        for (int k = 0; k < 32; k++) {
            DUE.due("2: put(" + k + ")", x.put(k, 1000 - k), true);
            DUE.due("2: count(0)", x.count(0), k + 1);
        }
        for (int k = 0; k < 32; k++) {
            DUE.due("2: get(0, " + k + ")", x.get(0, k), 1000 - k);
        }
        DUE.due("2: put over an old value", x.put(31, Integer.MIN_VALUE), true);
        DUE.due("2: get(0, 31)", x.get(0, 31), Integer.MIN_VALUE);
        DUE.due("2: put the same value again", x.put(31, Integer.MIN_VALUE), true);
        DUE.due("2: count(0) after putting over", x.count(0), 32);
        DUE.due("2: put 0", x.put(0, 0), true);
        DUE.due("2: has(0, 0) with value 0", x.has(0, 0), true);
        DUE.due("2: get(0, 0) with value 0", x.get(0, 0), 0);
        DUE.due("2: put makes no version", x.kept(), 0);
    }

    private static void promise2PutWrongKeys() {
        VersionTree x = new VersionTree();
        x.put(0, 10);
        x.put(31, 20);
        for (int k : WRONG_KEYS) {
            DUE.due("2: put(" + k + ", 7)", x.put(k, 7), false);
            DUE.due("2: keys(0) after put(" + k + ")", x.keys(0), 1 | 1 << 31);
            DUE.due("2: get(0, 0) after put(" + k + ")", x.get(0, 0), 10);
            DUE.due("2: get(0, 31) after put(" + k + ")", x.get(0, 31), 20);
        }
    }

    private static void promise3Remove() {
        VersionTree x = new VersionTree();
        DUE.due("3: remove from an empty table", x.remove(5), false);
        x.put(0, 1);
        x.put(5, 2);
        x.put(31, 3);
        DUE.due("3: remove(6)", x.remove(6), false);
        DUE.due("3: remove(5)", x.remove(5), true);
        DUE.due("3: remove(5) again", x.remove(5), false);
        DUE.due("3: keys(0)", x.keys(0), 1 | 1 << 31);
        for (int k : WRONG_KEYS) {
            DUE.due("3: remove(" + k + ")", x.remove(k), false);
            DUE.due("3: keys(0) after remove(" + k + ")", x.keys(0), 1 | 1 << 31);
        }
        DUE.due("3: remove(31)", x.remove(31), true);
        DUE.due("3: remove(0)", x.remove(0), true);
        DUE.due("3: count(0)", x.count(0), 0);
    }

    private static void promise3RemoveThenPut() {
        VersionTree x = new VersionTree();
        x.put(9, 77);
        x.remove(9);
        DUE.due("3: has(0, 9)", x.has(0, 9), false);
        DUE.due("3: get(0, 9)", x.get(0, 9), 0);
        DUE.due("3: sum(0, 0, 31)", x.sum(0, 0, 31), 0);
        x.put(9, 78);
        DUE.due("3: get(0, 9) after putting again", x.get(0, 9), 78);
        x.save();
        DUE.due("3: remove what a version holds", x.remove(9), true);
        DUE.due("3: remove what only a version holds", x.remove(9), false);
        DUE.due("3: get(1, 9)", x.get(1, 9), 78);
    }

    private static void promise4Save() {
        VersionTree x = new VersionTree();
        for (int n = 1; n <= 9; n++) {
            x.put(n, n * 11);
            DUE.due("4: save()", x.save(), n);
            for (int old = 1; old <= n; old++) {
                boolean kept = old > n - 4;
                DUE.due("4: count(" + old + ") of " + n, x.count(old), kept ? old : -1);
                DUE.due("4: get(" + old + ", same)", x.get(old, old), kept ? old * 11 : 0);
            }
            DUE.due("4: count of the next", x.count(n + 1), -1);
            DUE.due("4: working table stays", x.count(0), n);
        }
    }

    private static void promise4SavedTableStays() {
        VersionTree x = new VersionTree();
        x.put(1, 10);
        x.put(2, 20);
        DUE.due("4: save()", x.save(), 1);
        x.put(1, 11);
        x.remove(2);
        x.put(3, 30);
        DUE.due("4: keys(1)", x.keys(1), 1 << 1 | 1 << 2);
        DUE.due("4: get(1, 1)", x.get(1, 1), 10);
        DUE.due("4: get(1, 2)", x.get(1, 2), 20);
        DUE.due("4: keys(0)", x.keys(0), 1 << 1 | 1 << 3);
    }

    private static void promise4ManySaves() {
        VersionTree x = new VersionTree();
        for (int n = 1; n <= 511; n++) {
            DUE.due("4: save()", x.save(), n);
        }
        DUE.due("4: kept() as the 512th call", x.kept(), 508 + 1000 * 511);
    }

    private static VersionTree withFourVersions() {
        VersionTree x = new VersionTree();
        for (int n = 1; n <= 4; n++) {
            x.put(n, n);
            x.put(20, 100 * n);
            x.save();
        }
        return x;
    }

    private static void promise5GoBack() {
        for (int n = 1; n <= 4; n++) {
            VersionTree x = withFourVersions();
            x.put(30, 1);
            x.remove(1);
            DUE.due("5: goBack(" + n + ")", x.goBack(n), true);
            DUE.due("5: kept()", x.kept(), 1 + 1000 * n);
            DUE.due("5: count(0)", x.count(0), n + 1);
            DUE.due("5: get(0, 20)", x.get(0, 20), 100 * n);
            DUE.due("5: has(0, 30)", x.has(0, 30), false);
            DUE.due("5: get(0, 1)", x.get(0, 1), 1);
            for (int m = 1; m <= 5; m++) {
                DUE.due("5: count(" + m + ")", x.count(m), m <= n ? m + 1 : -1);
            }
            x.put(20, -1);
            DUE.due("5: version is apart from the working table", x.get(n, 20), 100 * n);
            DUE.due("5: goBack again", x.goBack(n), true);
            DUE.due("5: get(0, 20) again", x.get(0, 20), 100 * n);
        }
    }

    private static void promise5NumbersGivenOutAgain() {
        VersionTree x = withFourVersions();
        x.goBack(2);
        x.put(20, 7);
        DUE.due("5: save() after goBack(2)", x.save(), 3);
        DUE.due("5: get(3, 20)", x.get(3, 20), 7);
        DUE.due("5: get(2, 20)", x.get(2, 20), 200);
        DUE.due("5: count(4)", x.count(4), -1);
        DUE.due("5: goBack(4)", x.goBack(4), false);
        DUE.due("5: kept()", x.kept(), 3001);
        DUE.due("5: save()", x.save(), 4);
        DUE.due("5: kept() with four", x.kept(), 4001);
        DUE.due("5: save()", x.save(), 5);
        DUE.due("5: kept() with the oldest gone", x.kept(), 5002);
    }

    private static void promise5RefusedNumbers() {
        VersionTree x = withFourVersions();
        x.save();
        x.put(20, 3);
        int[] refused = {0, 1, 6, 7, 9, -1, -2, -3, 1000, Integer.MIN_VALUE, Integer.MAX_VALUE};
        for (int n : refused) {
            DUE.due("5: goBack(" + n + ")", x.goBack(n), false);
            DUE.due("5: kept() after goBack(" + n + ")", x.kept(), 5002);
            DUE.due("5: get(0, 20) after goBack(" + n + ")", x.get(0, 20), 3);
            DUE.due("5: get(5, 20) after goBack(" + n + ")", x.get(5, 20), 400);
        }
    }

    private static void promise5EvictedStaysGone() {
        VersionTree x = withFourVersions();
        x.save();
        x.save();
        DUE.due("5: kept()", x.kept(), 6003);
        DUE.due("5: goBack(3)", x.goBack(3), true);
        DUE.due("5: kept() with one", x.kept(), 3003);
        DUE.due("5: goBack(2)", x.goBack(2), false);
        DUE.due("5: count(2)", x.count(2), -1);
        DUE.due("5: save()", x.save(), 4);
        DUE.due("5: kept() with two", x.kept(), 4003);
        x.save();
        x.save();
        DUE.due("5: kept() with four", x.kept(), 6003);
        x.save();
        DUE.due("5: kept() with the oldest gone", x.kept(), 7004);
    }

    private static void promise6Kept() {
        VersionTree x = new VersionTree();
        DUE.due("6: kept()", x.kept(), 0);
        x.put(1, 1);
        DUE.due("6: kept() without a version", x.kept(), 0);
        int[] want = {1001, 2001, 3001, 4001, 5002, 6003, 7004};
        for (int due : want) {
            x.save();
            DUE.due("6: kept()", x.kept(), due);
            DUE.due("6: kept() again", x.kept(), due);
        }
    }

    private static void promise17RefusedChangesNothing() {
        VersionTree x = withFourVersions();
        x.save();
        x.put(6, 60);
        long before = print(x);
        DUE.due("17: put(32, 1)", x.put(32, 1), false);
        DUE.due("17: put(-1, 1)", x.put(-1, 1), false);
        DUE.due("17: remove(7)", x.remove(7), false);
        DUE.due("17: remove(38)", x.remove(38), false);
        DUE.due("17: remove(-26)", x.remove(-26), false);
        DUE.due("17: goBack(1)", x.goBack(1), false);
        DUE.due("17: goBack(6)", x.goBack(6), false);
        DUE.due("17: goBack(0)", x.goBack(0), false);
        DUE.due("17: count(1)", x.count(1), -1);
        DUE.due("17: from(6, 0)", x.from(6, 0), -1);
        DUE.due("17: from(0, 32)", x.from(0, 32), -1);
        DUE.due("17: upTo(1, 31)", x.upTo(1, 31), -1);
        DUE.due("17: upTo(0, -1)", x.upTo(0, -1), -1);
        DUE.due("17: keyAt(0, 32)", x.keyAt(0, 32), -1);
        DUE.due("17: keyAt(-1, 0)", x.keyAt(-1, 0), -1);
        DUE.due("17: rank(9, 5)", x.rank(9, 5), -1);
        DUE.due("17: everything after the refusals", print(x), before);
        DUE.due("17: save() after the refusals", x.save(), 6);
    }

    /** One number over all that versions 0 to 6 hold; short, as an object has 512 calls in all. */
    private static long print(VersionTree x) {
        long print = x.kept();
        for (int n = 0; n <= 6; n++) {
            print = print * 31 + x.keys(n);
            for (int k = 0; k <= 24; k++) {
                print = print * 31 + x.get(n, k);
            }
        }
        return print;
    }
}
