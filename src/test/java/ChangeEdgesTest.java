import java.util.function.ToIntFunction;

/** The edges in the words of promises 1 to 6 and 17: a test for each sentence that names one. */
public final class ChangeEdgesTest {
    private static final Due DUE = new Due();
    private static final int NONE = -1;
    private static final int LOW = Made.LOW;
    private static final int HIGH = Made.HIGH;

    private ChangeEdgesTest() { }

    public static void main(String[] args) {
        newTableIsEmpty();
        newObjectHasNoVersions();
        putTakesTheFirstAndTheLastKey();
        putTakesEveryInt();
        putIntoAFullTable();
        putRefusesTooSmallKeys();
        putRefusesTooLargeKeys();
        removeFromAnEmptyTable();
        removeWhatWasTakenOut();
        removeWhatOnlyAVersionHas();
        removeRefusesWhatIsNoKey();
        removeTheLastOne();
        saveIsOneTheFirstTime();
        saveIsOneMoreThanTheLast();
        saveOfAnEmptyTable();
        saveWithThreeKeptKeepsAllFour();
        saveWithFourKeptDropsTheOldestAlone();
        saveGoesOnToTheLastCall();
        goBackForgetsTheGreater();
        goBackToTheGreatestForgetsNone();
        goBackGivesTheNumbersOutAgain();
        goBackBringsNoDroppedOneBack();
        goBackThenSaveDropsOnlyFromFour();
        goBackRefusesZero();
        goBackRefusesWithoutVersions();
        goBackRefusesWhatWasNeverSaved();
        goBackRefusesTheDropped();
        goBackRefusesTheForgotten();
        keptIsZeroWithoutVersions();
        keptWithOneVersion();
        keptTellsAllFromLeastToGreatest();
        refusedChangesNothing();
        DUE.end();
    }

    // Promise 1: "The working table is empty"
    private static void newTableIsEmpty() {
        VersionTree x = new VersionTree();
        DUE.due("1: count(0)", x.count(0), 0);
        DUE.due("1: keys(0)", x.keys(0), 0);
        DUE.due("1: from(0, LOW)", x.from(0, LOW), NONE);
        DUE.due("1: upTo(0, HIGH)", x.upTo(0, HIGH), NONE);
        DUE.due("1: keyAt(0, 0)", x.keyAt(0, 0), NONE);
        DUE.due("1: rank(0, HIGH)", x.rank(0, HIGH), 0);
        DUE.due("1: sum(0, LOW, HIGH)", x.sum(0, LOW, HIGH), 0);
        DUE.due("1: difference(0, 0)", x.difference(0, 0), 0);
        for (int k = 0; k < 32; k++) {
            DUE.due("1: has(0, " + k + ")", x.has(0, k), false);
            DUE.due("1: get(0, " + k + ")", x.get(0, k), 0);
            DUE.due("1: remove(" + k + ")", x.remove(k), false);
        }
    }

    // Promise 1: "no versions"
    private static void newObjectHasNoVersions() {
        VersionTree x = new VersionTree();
        DUE.due("1: kept()", x.kept(), 0);
        int[] numbers = {1, 2, 3, 4, 5, 8, -1, -4, LOW, HIGH};
        for (int n : numbers) {
            DUE.due("1: count(" + n + ")", x.count(n), NONE);
            DUE.due("1: goBack(" + n + ")", x.goBack(n), false);
        }
        DUE.due("1: save()", x.save(), 1);
    }

    // Promise 2: "answers true", at both ends of "0 .. 31"
    private static void putTakesTheFirstAndTheLastKey() {
        VersionTree x = new VersionTree();
        DUE.due("2: put(0, 6)", x.put(0, 6), true);
        DUE.due("2: keys(0) with key 0", x.keys(0), 1);
        DUE.due("2: put(31, 7)", x.put(31, 7), true);
        DUE.due("2: keys(0) with keys 0 and 31", x.keys(0), 1 | 1 << 31);
        DUE.due("2: get(0, 0)", x.get(0, 0), 6);
        DUE.due("2: get(0, 31)", x.get(0, 31), 7);
    }

    // Promise 2 and Terms: "values are ints"
    private static void putTakesEveryInt() {
        VersionTree x = new VersionTree();
        int[] values = {0, -1, 1, LOW, HIGH, NONE};
        for (int v : values) {
            DUE.due("2: put(9, " + v + ")", x.put(9, v), true);
            DUE.due("2: get(0, 9) of " + v, x.get(0, 9), v);
            DUE.due("2: has(0, 9) of " + v, x.has(0, 9), true);
            DUE.due("2: count(0) of " + v, x.count(0), 1);
        }
    }

    // Promise 2: a full table is no reason to refuse
    private static void putIntoAFullTable() {
        for (int k = 0; k < 32; k++) {
            VersionTree x = Made.full();
            DUE.due("2: put(" + k + ", 7) over a full table", x.put(k, 7), true);
            DUE.due("2: get(0, " + k + ")", x.get(0, k), 7);
            DUE.due("2: count(0) still full", x.count(0), 32);
            DUE.due("2: sum of the others", x.sum(0, 0, 31) - 7, 32 * 100 + 496 - 100 - k);
        }
    }

    // Promise 2: "false, changing nothing, when k is not 0 .. 31", below
    private static void putRefusesTooSmallKeys() {
        for (int k : Made.TOO_SMALL) {
            putRefuses(k);
        }
    }

    // Promise 2: "false, changing nothing, when k is not 0 .. 31", above
    private static void putRefusesTooLargeKeys() {
        for (int k : Made.TOO_LARGE) {
            putRefuses(k);
        }
    }

    private static void putRefuses(int k) {
        VersionTree empty = new VersionTree();
        DUE.due("2: put(" + k + ", 7) when empty", empty.put(k, 7), false);
        Made.same(DUE, "2: put(" + k + ", 7) when empty", empty, new VersionTree());
        VersionTree full = Made.saved(5);
        DUE.due("2: put(" + k + ", 7) when full", full.put(k, 7), false);
        Made.same(DUE, "2: put(" + k + ", 7) when full", full, Made.saved(5));
    }

    // Promise 3: "false, changing nothing, when it is not there", as nothing is
    private static void removeFromAnEmptyTable() {
        for (int k = 0; k < 32; k++) {
            VersionTree x = new VersionTree();
            DUE.due("3: remove(" + k + ") when empty", x.remove(k), false);
            Made.same(DUE, "3: remove(" + k + ") when empty", x, new VersionTree());
        }
    }

    // Promise 3: "false, changing nothing, when it is not there", as it was taken out
    private static void removeWhatWasTakenOut() {
        for (int k = 0; k < 32; k++) {
            VersionTree x = Made.full();
            DUE.due("3: remove(" + k + ")", x.remove(k), true);
            DUE.due("3: remove(" + k + ") again", x.remove(k), false);
            VersionTree once = Made.full();
            once.remove(k);
            DUE.due("3: keys(0) without " + k, once.keys(0), ~(1 << k));
            Made.same(DUE, "3: remove(" + k + ") twice", x, once);
        }
    }

    // Promise 3: "false, changing nothing, when it is not there", though it is in versions
    private static void removeWhatOnlyAVersionHas() {
        VersionTree x = Made.saved(4);
        x.remove(5);
        DUE.due("3: remove(5) that versions have", x.remove(5), false);
        for (int n = 1; n <= 4; n++) {
            DUE.due("3: get(" + n + ", 5)", x.get(n, 5), n);
        }
        VersionTree once = Made.saved(4);
        once.remove(5);
        Made.same(DUE, "3: remove(5) that versions have", x, once);
    }

    // Promise 3: "false, changing nothing, when it is not there", as no key but 0 .. 31 ever is
    private static void removeRefusesWhatIsNoKey() {
        int[][] kinds = {Made.TOO_SMALL, Made.TOO_LARGE};
        for (int[] kind : kinds) {
            for (int k : kind) {
                VersionTree x = Made.saved(5);
                DUE.due("3: remove(" + k + ")", x.remove(k), false);
                Made.same(DUE, "3: remove(" + k + ")", x, Made.saved(5));
            }
        }
    }

    // Promise 3: "Takes key k out", down to an empty table
    private static void removeTheLastOne() {
        VersionTree x = Made.full();
        for (int k = 31; k >= 0; k--) {
            DUE.due("3: remove(" + k + ")", x.remove(k), true);
            DUE.due("3: count(0) after remove(" + k + ")", x.count(0), k);
        }
        Made.same(DUE, "3: the removal of all", x, new VersionTree());
    }

    // Promise 4: "(1 the first time)"
    private static void saveIsOneTheFirstTime() {
        DUE.due("4: save() of a new object", new VersionTree().save(), 1);
        DUE.due("4: save() of a full table", Made.full().save(), 1);
        VersionTree x = new VersionTree();
        x.goBack(1);
        x.goBack(0);
        DUE.due("4: save() after refusals", x.save(), 1);
    }

    // Promise 4: "one more than the last number given out", dropped ones or not
    private static void saveIsOneMoreThanTheLast() {
        VersionTree x = new VersionTree();
        for (int n = 1; n <= 40; n++) {
            DUE.due("4: save() number " + n, x.save(), n);
        }
    }

    // Promise 4: an empty table is a version too, and not nothing
    private static void saveOfAnEmptyTable() {
        VersionTree x = new VersionTree();
        DUE.due("4: save() when empty", x.save(), 1);
        x.put(3, 4);
        DUE.due("4: count(1)", x.count(1), 0);
        DUE.due("4: rank(1, 31)", x.rank(1, 31), 0);
        DUE.due("4: difference(0, 1)", x.difference(0, 1), 1 << 3);
        DUE.due("4: goBack(1)", x.goBack(1), true);
        DUE.due("4: keys(0)", x.keys(0), 0);
    }

    // Promise 4: "When four were kept" and not before
    private static void saveWithThreeKeptKeepsAllFour() {
        VersionTree x = Made.saved(3);
        DUE.due("4: save() with three kept", x.save(), 4);
        int[] due = {1, 2, 3, -5};
        for (int n = 1; n <= 4; n++) {
            DUE.due("4: count(" + n + ") of four", x.count(n), 32);
            DUE.due("4: get(" + n + ", 5) of four", x.get(n, 5), due[n - 1]);
        }
        DUE.due("4: kept() of four", x.kept(), 4001);
    }

    // Promise 4: "the oldest one is kept no more", round and round
    private static void saveWithFourKeptDropsTheOldestAlone() {
        for (int saves = 5; saves <= 14; saves++) {
            VersionTree x = Made.saved(saves);
            DUE.due("4: kept() of " + saves, x.kept(), saves - 3 + 1000 * saves);
            for (int n = 1; n <= saves + 4; n++) {
                boolean kept = n > saves - 4 && n <= saves;
                DUE.due("4: count(" + n + ") of " + saves, x.count(n), kept ? 32 : NONE);
                DUE.due("4: get(" + n + ", 5) of " + saves, x.get(n, 5), kept ? n : 0);
                DUE.due("4: get(" + n + ", 31) of " + saves, x.get(n, 31), kept ? 131 : 0);
            }
            DUE.due("4: get(0, 5) of " + saves, x.get(0, 5), -5);
        }
    }

    // "at most 512 calls": the greatest number that can be given out
    private static void saveGoesOnToTheLastCall() {
        VersionTree x = new VersionTree();
        for (int n = 1; n <= 512; n++) {
            DUE.due("4: save() as call " + n, x.save(), n);
        }
        VersionTree y = new VersionTree();
        for (int n = 1; n <= 510; n++) {
            y.save();
        }
        DUE.due("4: goBack(507) as call 511", y.goBack(507), true);
        DUE.due("4: kept() as call 512", y.kept(), 507507);
    }

    // Promise 5: "forgets all versions with greater numbers", and no others
    private static void goBackForgetsTheGreater() {
        for (int back = 3; back <= 6; back++) {
            VersionTree x = Made.saved(6);
            // Both ends of the table are changed since, so that a copy that stops short shows.
            x.put(0, -1);
            x.put(31, -1);
            DUE.due("5: goBack(" + back + ")", x.goBack(back), true);
            DUE.due("5: kept() after goBack(" + back + ")", x.kept(), 3 + 1000 * back);
            DUE.due("5: get(0, 5) after goBack(" + back + ")", x.get(0, 5), back);
            DUE.due("5: get(0, 0) after goBack(" + back + ")", x.get(0, 0), 100);
            DUE.due("5: get(0, 31) after goBack(" + back + ")", x.get(0, 31), 131);
            for (int n = 1; n <= 8; n++) {
                boolean kept = n >= 3 && n <= back;
                DUE.due("5: count(" + n + ") back at " + back, x.count(n), kept ? 32 : NONE);
                DUE.due("5: get(" + n + ", 5) back at " + back, x.get(n, 5), kept ? n : 0);
            }
        }
    }

    // Promise 5: none is greater than the greatest
    private static void goBackToTheGreatestForgetsNone() {
        VersionTree x = Made.saved(4);
        DUE.due("5: goBack(4) of four", x.goBack(4), true);
        x.put(5, -5);
        Made.same(DUE, "5: goBack(4) of four", x, Made.saved(4));
        VersionTree one = Made.saved(1);
        DUE.due("5: goBack(1) of one", one.goBack(1), true);
        one.put(5, -5);
        Made.same(DUE, "5: goBack(1) of one", one, Made.saved(1));
    }

    // Promise 5: "(their numbers are given out again)"
    private static void goBackGivesTheNumbersOutAgain() {
        for (int back = 1; back <= 4; back++) {
            VersionTree x = Made.goneBack(4, back);
            for (int n = back + 1; n <= 6; n++) {
                x.put(5, 50 + n);
                DUE.due("5: save() back at " + back, x.save(), n);
                DUE.due("5: get(" + n + ", 5) back at " + back, x.get(n, 5), 50 + n);
                DUE.due("5: count(next) back at " + back, x.count(n + 1), NONE);
            }
        }
    }

    // Promises 4 and 5: no sentence brings back a version that is kept no more
    private static void goBackBringsNoDroppedOneBack() {
        VersionTree x = Made.saved(7);
        DUE.due("5: goBack(4), the oldest", x.goBack(4), true);
        DUE.due("5: kept() with one", x.kept(), 4004);
        for (int n = 1; n <= 3; n++) {
            DUE.due("5: count(" + n + ") of a dropped one", x.count(n), NONE);
            DUE.due("5: goBack(" + n + ") to a dropped one", x.goBack(n), false);
        }
        DUE.due("5: kept() still with one", x.kept(), 4004);
        DUE.due("5: get(0, 5)", x.get(0, 5), 4);
    }

    // Promises 4 and 5: what was forgotten does not count among the four
    private static void goBackThenSaveDropsOnlyFromFour() {
        VersionTree x = Made.goneBack(6, 4);
        int[] due = {5003, 6003, 7004, 8005};
        for (int kept : due) {
            x.save();
            DUE.due("5: kept() after goBack(4) and saves", x.kept(), kept);
        }
        VersionTree y = Made.goneBack(6, 3);
        int[] dueFromOne = {4003, 5003, 6003, 7004};
        for (int kept : dueFromOne) {
            y.save();
            DUE.due("5: kept() after goBack(3) and saves", y.kept(), kept);
        }
        DUE.due("5: count(3) dropped now", y.count(3), NONE);
        DUE.due("5: get(4, 5)", y.get(4, 5), -5);
    }

    // Promise 5: "(nor for 0)"
    private static void goBackRefusesZero() {
        for (int saves = 0; saves <= 6; saves++) {
            VersionTree x = Made.saved(saves);
            DUE.due("5: goBack(0) of " + saves, x.goBack(0), false);
            Made.same(DUE, "5: goBack(0) of " + saves, x, Made.saved(saves));
        }
    }

    // Promise 5: "false, changing nothing, when n is not the number of a kept version": none is
    private static void goBackRefusesWithoutVersions() {
        int[] numbers = {1, 2, 3, 4, 5, -1, -2, -3, -4, LOW, HIGH};
        for (int n : numbers) {
            goBackRefuses(n, Made.full(), Made.full());
        }
    }

    // Promise 5: "false, changing nothing, when n is not the number of a kept version": never saved
    private static void goBackRefusesWhatWasNeverSaved() {
        int[] numbers = {4, 5, 6, 7, 8, 11, 1000, HIGH, HIGH - 1, -1, -2, -3, -4, LOW, LOW + 1};
        for (int n : numbers) {
            goBackRefuses(n, Made.saved(3), Made.saved(3));
        }
    }

    // Promise 5: "false, changing nothing, when n is not the number of a kept version": dropped
    private static void goBackRefusesTheDropped() {
        for (int n = 1; n <= 2; n++) {
            goBackRefuses(n, Made.saved(6), Made.saved(6));
        }
    }

    // Promise 5: "false, changing nothing, when n is not the number of a kept version": forgotten
    private static void goBackRefusesTheForgotten() {
        for (int n = 3; n <= 5; n++) {
            goBackRefuses(n, Made.goneBack(5, 2), Made.goneBack(5, 2));
        }
    }

    private static void goBackRefuses(int n, VersionTree x, VersionTree untouched) {
        DUE.due("5: goBack(" + n + ")", x.goBack(n), false);
        Made.same(DUE, "5: goBack(" + n + ")", x, untouched);
    }

    // Promise 6: "0 when there is none"
    private static void keptIsZeroWithoutVersions() {
        VersionTree x = new VersionTree();
        DUE.due("6: kept() of a new object", x.kept(), 0);
        x.put(5, 6);
        DUE.due("6: kept() after put", x.kept(), 0);
        x.goBack(1);
        DUE.due("6: kept() after a refused goBack", x.kept(), 0);
        x.remove(5);
        DUE.due("6: kept() after remove", x.kept(), 0);
    }

    // Promise 6: "the least one + 1000 * the greatest one", when they are the same one
    private static void keptWithOneVersion() {
        DUE.due("6: kept() of the first", Made.saved(1).kept(), 1001);
        DUE.due("6: kept() back at the first", Made.goneBack(4, 1).kept(), 1001);
        DUE.due("6: kept() back at the oldest", Made.goneBack(9, 6).kept(), 6006);
    }

    // Promise 6: "(They are all numbers from the one to the other.)"
    private static void keptTellsAllFromLeastToGreatest() {
        for (int saves = 1; saves <= 9; saves++) {
            VersionTree x = Made.saved(saves);
            int least = x.kept() % 1000;
            int greatest = x.kept() / 1000;
            DUE.due("6: the least of " + saves, least, saves < 4 ? 1 : saves - 3);
            DUE.due("6: the greatest of " + saves, greatest, saves);
            for (int n = 1; n <= saves + 1; n++) {
                boolean kept = n >= least && n <= greatest;
                DUE.due("6: " + n + " is kept of " + saves, x.count(n) != NONE, kept);
            }
        }
    }

    // Promise 17: "a call that is refused (by a code below 0 that is named, or by false) changes
    // nothing"; versions 2 to 3 are kept, 1 was dropped, 4 and 5 were forgotten, 7 is not there.
    private static void refusedChangesNothing() {
        refused("put(-1, 9)", x -> x.put(-1, 9) ? 1 : 0, 0);
        refused("put(32, 9)", x -> x.put(32, 9) ? 1 : 0, 0);
        refused("remove(7)", x -> x.remove(7) ? 1 : 0, 0);
        refused("remove(-1)", x -> x.remove(-1) ? 1 : 0, 0);
        refused("remove(32)", x -> x.remove(32) ? 1 : 0, 0);
        int[] nothing = {1, 4, 5, 6, -1, LOW, HIGH};
        for (int n : nothing) {
            refused("goBack(" + n + ")", x -> x.goBack(n) ? 1 : 0, 0);
            refused("has(" + n + ", 5)", x -> x.has(n, 5) ? 1 : 0, 0);
            refused("count(" + n + ")", x -> x.count(n), NONE);
            refused("from(" + n + ", 5)", x -> x.from(n, 5), NONE);
            refused("upTo(" + n + ", 5)", x -> x.upTo(n, 5), NONE);
            refused("keyAt(" + n + ", 5)", x -> x.keyAt(n, 5), NONE);
            refused("rank(" + n + ", 5)", x -> x.rank(n, 5), NONE);
        }
        refused("goBack(0)", x -> x.goBack(0) ? 1 : 0, 0);
        refused("has(0, 7)", x -> x.has(0, 7) ? 1 : 0, 0);
        refused("from(0, 32)", x -> x.from(0, 32), NONE);
        refused("upTo(0, -1)", x -> x.upTo(0, -1), NONE);
        refused("keyAt(0, 31)", x -> x.keyAt(0, 31), NONE);
        refused("keyAt(0, -1)", x -> x.keyAt(0, -1), NONE);
    }

    private static void refused(String call, ToIntFunction<VersionTree> made, int answer) {
        VersionTree x = withoutSeven();
        DUE.due("17: " + call, made.applyAsInt(x), answer);
        Made.same(DUE, "17: " + call, x, withoutSeven());
    }

    private static VersionTree withoutSeven() {
        VersionTree x = Made.goneBack(5, 3);
        x.remove(7);
        return x;
    }
}
