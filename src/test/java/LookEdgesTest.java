/** The edges in the words of promises 7 to 16: a test for each sentence that names one. */
public final class LookEdgesTest {
    private static final Due DUE = new Due();
    private static final int NONE = -1;
    private static final int LOW = Made.LOW;
    private static final int HIGH = Made.HIGH;

    /** An object, and the numbers that stand for nothing in it. */
    private record Case(String name, VersionTree x, int... nothing) { }

    private LookEdgesTest() { }

    public static void main(String[] args) {
        zeroStandsForTheWorkingTable();
        hasOfNothing();
        hasOfKeysNotThere();
        getOfNothing();
        getOfKeysNotThere();
        countOfNothing();
        countOfEmptyAndFull();
        fromOfNothing();
        fromWhenNoneFits();
        fromAtTheKeyItself();
        upToOfNothing();
        upToWhenNoneFits();
        upToAtTheKeyItself();
        keyAtOfNothing();
        keyAtWhenNoneFits();
        keyAtFirstAndLast();
        rankOfNothing();
        rankLeavesTheKeyItselfOut();
        rankOfKeysBeyondTheEnds();
        sumOfNothing();
        sumWhenThereAreNone();
        sumWithBothIncluded();
        sumBeyondTheEnds();
        sumWrapsAbove();
        sumWrapsBelow();
        differenceOfNothing();
        differenceOfOneAndItself();
        differenceAtTheFirstAndTheLastKey();
        differenceOfZeroAndNotThere();
        differenceLeavesOldValuesOut();
        keysOfNothing();
        keysOfEmptyAndFull();
        DUE.end();
    }

    // Terms: "a number that is neither 0 nor that of a kept version stands for nothing": every way
    // to be such a number, among tables that are full, so that any of them taken for it shows.
    private static Case[] cases() {
        return new Case[] {
            new Case("without versions", Made.full(), 1, 2, 3, 4, 5, -1, -4, LOW, HIGH),
            new Case("not saved yet", Made.saved(2), 3, 4, 5, 6, 7, 1000, HIGH - 1, HIGH),
            new Case("below 0", Made.saved(4), -1, -2, -3, -4, -5, -8, LOW, LOW + 1, LOW + 4),
            new Case("dropped", Made.saved(6), 1, 2),
            new Case("next to four", Made.saved(4), 5, 6, 7, 8),
            new Case("forgotten", Made.goneBack(4, 2), 3, 4),
            new Case("dropped or forgotten", Made.goneBack(7, 5), 1, 2, 3, 6, 7, 8, 9),
        };
    }

    // Terms: "version 0 stands for the working table", with versions and without
    private static void zeroStandsForTheWorkingTable() {
        for (int saves = 0; saves <= 6; saves++) {
            VersionTree x = Made.saved(saves);
            DUE.due("Terms: has(0, 5)", x.has(0, 5), true);
            DUE.due("Terms: get(0, 5)", x.get(0, 5), -5);
            DUE.due("Terms: count(0)", x.count(0), 32);
            DUE.due("Terms: from(0, 5)", x.from(0, 5), 5);
            DUE.due("Terms: upTo(0, 5)", x.upTo(0, 5), 5);
            DUE.due("Terms: keyAt(0, 5)", x.keyAt(0, 5), 5);
            DUE.due("Terms: rank(0, 5)", x.rank(0, 5), 5);
            DUE.due("Terms: sum(0, 5, 5)", x.sum(0, 5, 5), -5);
            DUE.due("Terms: keys(0)", x.keys(0), -1);
            if (saves > 0) {
                DUE.due("Terms: difference(0, " + saves + ")", x.difference(0, saves), 1 << 5);
            }
        }
    }

    // Promise 7: "false when n stands for nothing"
    private static void hasOfNothing() {
        for (Case c : cases()) {
            for (int n : c.nothing) {
                DUE.due("7: has(" + n + ", 0), " + c.name, c.x.has(n, 0), false);
                DUE.due("7: has(" + n + ", 31), " + c.name, c.x.has(n, 31), false);
                DUE.due("7: has(" + n + ", 32), " + c.name, c.x.has(n, 32), false);
            }
        }
    }

    // Promise 7: "Whether key k is there", for what is no key and for one taken out
    private static void hasOfKeysNotThere() {
        VersionTree x = Made.saved(5);
        int[][] kinds = {Made.TOO_SMALL, Made.TOO_LARGE};
        for (int[] kind : kinds) {
            for (int k : kind) {
                DUE.due("7: has(0, " + k + ")", x.has(0, k), false);
                DUE.due("7: has(2, " + k + ")", x.has(2, k), false);
                DUE.due("7: has(5, " + k + ")", x.has(5, k), false);
            }
        }
        x.remove(0);
        x.remove(31);
        DUE.due("7: has(0, 0) taken out", x.has(0, 0), false);
        DUE.due("7: has(0, 31) taken out", x.has(0, 31), false);
        DUE.due("7: has(5, 0) still in 5", x.has(5, 0), true);
        DUE.due("7: has(5, 31) still in 5", x.has(5, 31), true);
    }

    // Promise 8: "0 when .. n stands for nothing"
    private static void getOfNothing() {
        for (Case c : cases()) {
            for (int n : c.nothing) {
                DUE.due("8: get(" + n + ", 0), " + c.name, c.x.get(n, 0), 0);
                DUE.due("8: get(" + n + ", 31), " + c.name, c.x.get(n, 31), 0);
                DUE.due("8: get(" + n + ", -1), " + c.name, c.x.get(n, -1), 0);
            }
        }
    }

    // Promise 8: "0 when it is not there"
    private static void getOfKeysNotThere() {
        VersionTree x = Made.saved(5);
        int[][] kinds = {Made.TOO_SMALL, Made.TOO_LARGE};
        for (int[] kind : kinds) {
            for (int k : kind) {
                DUE.due("8: get(0, " + k + ")", x.get(0, k), 0);
                DUE.due("8: get(3, " + k + ")", x.get(3, k), 0);
                DUE.due("8: get(5, " + k + ")", x.get(5, k), 0);
            }
        }
        x.remove(0);
        x.remove(31);
        x.save();
        DUE.due("8: get(0, 0) taken out", x.get(0, 0), 0);
        DUE.due("8: get(0, 31) taken out", x.get(0, 31), 0);
        DUE.due("8: get(6, 31) saved without", x.get(6, 31), 0);
        DUE.due("8: get(5, 31) still in 5", x.get(5, 31), 131);
    }

    // Promise 9: "NONE when n stands for nothing"
    private static void countOfNothing() {
        for (Case c : cases()) {
            for (int n : c.nothing) {
                DUE.due("9: count(" + n + "), " + c.name, c.x.count(n), NONE);
            }
        }
    }

    // Promise 9: "The number of keys", at its least and its greatest; 0 is not NONE
    private static void countOfEmptyAndFull() {
        VersionTree x = new VersionTree();
        x.save();
        DUE.due("9: count(0) of an empty one", x.count(0), 0);
        DUE.due("9: count(1) of an empty one", x.count(1), 0);
        VersionTree full = Made.saved(1);
        DUE.due("9: count(0) of a full one", full.count(0), 32);
        DUE.due("9: count(1) of a full one", full.count(1), 32);
    }

    // Promise 10: "NONE when .. n stands for nothing"
    private static void fromOfNothing() {
        for (Case c : cases()) {
            for (int n : c.nothing) {
                DUE.due("10: from(" + n + ", LOW), " + c.name, c.x.from(n, LOW), NONE);
                DUE.due("10: from(" + n + ", 0), " + c.name, c.x.from(n, 0), NONE);
                DUE.due("10: from(" + n + ", 31), " + c.name, c.x.from(n, 31), NONE);
            }
        }
    }

    // Promise 10: "NONE when there is none"
    private static void fromWhenNoneFits() {
        VersionTree x = Made.saved(1);
        for (int k : Made.TOO_LARGE) {
            DUE.due("10: from(0, " + k + ") of a full one", x.from(0, k), NONE);
            DUE.due("10: from(1, " + k + ") of a full one", x.from(1, k), NONE);
        }
        x.remove(31);
        DUE.due("10: from(0, 31) without 31", x.from(0, 31), NONE);
        DUE.due("10: from(0, 30) without 31", x.from(0, 30), 30);
        DUE.due("10: from(1, 31) with 31", x.from(1, 31), 31);
        DUE.due("10: from(0, LOW) when empty", new VersionTree().from(0, LOW), NONE);
    }

    // Promise 10: "at least k", the key itself and the whole way down
    private static void fromAtTheKeyItself() {
        VersionTree x = new VersionTree();
        x.put(31, 0);
        for (int k : Made.TOO_SMALL) {
            DUE.due("10: from(0, " + k + ") with 31 alone", x.from(0, k), 31);
        }
        DUE.due("10: from(0, 31) with 31 alone", x.from(0, 31), 31);
        x.put(0, 0);
        for (int k : Made.TOO_SMALL) {
            DUE.due("10: from(0, " + k + ") with 0", x.from(0, k), 0);
        }
        DUE.due("10: from(0, 0) with 0", x.from(0, 0), 0);
        DUE.due("10: from(0, 1) with 0", x.from(0, 1), 31);
    }

    // Promise 11: "NONE when .. n stands for nothing"
    private static void upToOfNothing() {
        for (Case c : cases()) {
            for (int n : c.nothing) {
                DUE.due("11: upTo(" + n + ", HIGH), " + c.name, c.x.upTo(n, HIGH), NONE);
                DUE.due("11: upTo(" + n + ", 31), " + c.name, c.x.upTo(n, 31), NONE);
                DUE.due("11: upTo(" + n + ", 0), " + c.name, c.x.upTo(n, 0), NONE);
            }
        }
    }

    // Promise 11: "NONE when there is none"
    private static void upToWhenNoneFits() {
        VersionTree x = Made.saved(1);
        for (int k : Made.TOO_SMALL) {
            DUE.due("11: upTo(0, " + k + ") of a full one", x.upTo(0, k), NONE);
            DUE.due("11: upTo(1, " + k + ") of a full one", x.upTo(1, k), NONE);
        }
        x.remove(0);
        DUE.due("11: upTo(0, 0) without 0", x.upTo(0, 0), NONE);
        DUE.due("11: upTo(0, 1) without 0", x.upTo(0, 1), 1);
        DUE.due("11: upTo(1, 0) with 0", x.upTo(1, 0), 0);
        DUE.due("11: upTo(0, HIGH) when empty", new VersionTree().upTo(0, HIGH), NONE);
    }

    // Promise 11: "at most k", the key itself and the whole way up
    private static void upToAtTheKeyItself() {
        VersionTree x = new VersionTree();
        x.put(0, 0);
        for (int k : Made.TOO_LARGE) {
            DUE.due("11: upTo(0, " + k + ") with 0 alone", x.upTo(0, k), 0);
        }
        DUE.due("11: upTo(0, 0) with 0 alone", x.upTo(0, 0), 0);
        x.put(31, 0);
        for (int k : Made.TOO_LARGE) {
            DUE.due("11: upTo(0, " + k + ") with 31", x.upTo(0, k), 31);
        }
        DUE.due("11: upTo(0, 31) with 31", x.upTo(0, 31), 31);
        DUE.due("11: upTo(0, 30) with 31", x.upTo(0, 30), 0);
    }

    // Promise 12: "NONE when .. n stands for nothing"
    private static void keyAtOfNothing() {
        for (Case c : cases()) {
            for (int n : c.nothing) {
                DUE.due("12: keyAt(" + n + ", 0), " + c.name, c.x.keyAt(n, 0), NONE);
                DUE.due("12: keyAt(" + n + ", 31), " + c.name, c.x.keyAt(n, 31), NONE);
                DUE.due("12: keyAt(" + n + ", -1), " + c.name, c.x.keyAt(n, -1), NONE);
            }
        }
    }

    // Promise 12: "NONE when there is none"
    private static void keyAtWhenNoneFits() {
        VersionTree x = Made.saved(1);
        int[][] kinds = {Made.TOO_SMALL, Made.TOO_LARGE};
        for (int[] kind : kinds) {
            for (int i : kind) {
                DUE.due("12: keyAt(0, " + i + ") of a full one", x.keyAt(0, i), NONE);
                DUE.due("12: keyAt(1, " + i + ") of a full one", x.keyAt(1, i), NONE);
            }
        }
        x.remove(8);
        DUE.due("12: keyAt(0, 31) of 31 keys", x.keyAt(0, 31), NONE);
        DUE.due("12: keyAt(0, 30) of 31 keys", x.keyAt(0, 30), 31);
        DUE.due("12: keyAt(0, 0) when empty", new VersionTree().keyAt(0, 0), NONE);
    }

    // Promise 12: "exactly i lesser ones", none and all the others
    private static void keyAtFirstAndLast() {
        VersionTree x = new VersionTree();
        x.put(31, 0);
        DUE.due("12: keyAt(0, 0) with 31 alone", x.keyAt(0, 0), 31);
        DUE.due("12: keyAt(0, 1) with 31 alone", x.keyAt(0, 1), NONE);
        x.put(0, 0);
        DUE.due("12: keyAt(0, 0) with 0 and 31", x.keyAt(0, 0), 0);
        DUE.due("12: keyAt(0, 1) with 0 and 31", x.keyAt(0, 1), 31);
        DUE.due("12: keyAt(0, 2) with 0 and 31", x.keyAt(0, 2), NONE);
        VersionTree full = Made.full();
        for (int i = 0; i < 32; i++) {
            DUE.due("12: keyAt(0, " + i + ") of a full one", full.keyAt(0, i), i);
        }
    }

    // Promise 13: "NONE when n stands for nothing", whatever k is
    private static void rankOfNothing() {
        for (Case c : cases()) {
            for (int n : c.nothing) {
                DUE.due("13: rank(" + n + ", LOW), " + c.name, c.x.rank(n, LOW), NONE);
                DUE.due("13: rank(" + n + ", 0), " + c.name, c.x.rank(n, 0), NONE);
                DUE.due("13: rank(" + n + ", 31), " + c.name, c.x.rank(n, 31), NONE);
                DUE.due("13: rank(" + n + ", HIGH), " + c.name, c.x.rank(n, HIGH), NONE);
            }
        }
    }

    // Promise 13: "less than k", so not k itself
    private static void rankLeavesTheKeyItselfOut() {
        VersionTree x = Made.full();
        for (int k = 0; k < 32; k++) {
            DUE.due("13: rank(0, " + k + ") of a full one", x.rank(0, k), k);
        }
        VersionTree one = new VersionTree();
        one.put(31, 0);
        DUE.due("13: rank(0, 31) with 31 alone", one.rank(0, 31), 0);
        DUE.due("13: rank(0, 32) with 31 alone", one.rank(0, 32), 1);
        VersionTree first = new VersionTree();
        first.put(0, 0);
        DUE.due("13: rank(0, 0) with 0 alone", first.rank(0, 0), 0);
        DUE.due("13: rank(0, 1) with 0 alone", first.rank(0, 1), 1);
    }

    // Promise 13: k need be no key: it refuses none
    private static void rankOfKeysBeyondTheEnds() {
        VersionTree x = Made.saved(1);
        for (int k : Made.TOO_SMALL) {
            DUE.due("13: rank(0, " + k + ") of a full one", x.rank(0, k), 0);
            DUE.due("13: rank(1, " + k + ") of a full one", x.rank(1, k), 0);
        }
        for (int k : Made.TOO_LARGE) {
            DUE.due("13: rank(0, " + k + ") of a full one", x.rank(0, k), 32);
            DUE.due("13: rank(1, " + k + ") of a full one", x.rank(1, k), 32);
        }
        DUE.due("13: rank(0, HIGH) when empty", new VersionTree().rank(0, HIGH), 0);
    }

    // Promise 14: "0 when .. n stands for nothing"
    private static void sumOfNothing() {
        for (Case c : cases()) {
            for (int n : c.nothing) {
                DUE.due("14: sum(" + n + ", 0, 31), " + c.name, c.x.sum(n, 0, 31), 0);
                DUE.due("14: sum(" + n + ", 31, 31), " + c.name, c.x.sum(n, 31, 31), 0);
                DUE.due("14: sum(" + n + ", LOW, HIGH), " + c.name, c.x.sum(n, LOW, HIGH), 0);
            }
        }
    }

    // Promise 14: "0 when there are none"
    private static void sumWhenThereAreNone() {
        DUE.due("14: sum(0, LOW, HIGH) when empty", new VersionTree().sum(0, LOW, HIGH), 0);
        VersionTree x = Made.saved(1);
        int[][] bare = {{1, 0}, {31, 0}, {31, 30}, {32, 31}, {0, -1}, {HIGH, LOW}, {-1, -1},
            {32, 32}, {LOW, -1}, {32, HIGH}, {LOW, LOW}, {HIGH, HIGH}, {16, LOW}, {HIGH, 16}};
        for (int[] ends : bare) {
            String call = ", " + ends[0] + ", " + ends[1] + ") of a full one";
            DUE.due("14: sum(0" + call, x.sum(0, ends[0], ends[1]), 0);
            DUE.due("14: sum(1" + call, x.sum(1, ends[0], ends[1]), 0);
        }
        x.remove(12);
        DUE.due("14: sum(0, 12, 12) taken out", x.sum(0, 12, 12), 0);
        DUE.due("14: sum(1, 12, 12) still in 1", x.sum(1, 12, 12), 112);
    }

    // Promise 14: "from a to b, both included"
    private static void sumWithBothIncluded() {
        VersionTree x = Made.full();
        for (int k = 0; k < 32; k++) {
            DUE.due("14: sum(0, " + k + ", same)", x.sum(0, k, k), 100 + k);
        }
        for (int k = 0; k < 31; k++) {
            DUE.due("14: sum(0, " + k + ", next)", x.sum(0, k, k + 1), 201 + 2 * k);
        }
        DUE.due("14: sum(0, 0, 31)", x.sum(0, 0, 31), 3696);
        DUE.due("14: sum(0, 1, 31)", x.sum(0, 1, 31), 3596);
        DUE.due("14: sum(0, 0, 30)", x.sum(0, 0, 30), 3565);
    }

    // Promise 14: a and b need be no keys: it refuses none
    private static void sumBeyondTheEnds() {
        VersionTree x = Made.full();
        for (int a : Made.TOO_SMALL) {
            DUE.due("14: sum(0, " + a + ", 31)", x.sum(0, a, 31), 3696);
            DUE.due("14: sum(0, " + a + ", 0)", x.sum(0, a, 0), 100);
        }
        for (int b : Made.TOO_LARGE) {
            DUE.due("14: sum(0, 0, " + b + ")", x.sum(0, 0, b), 3696);
            DUE.due("14: sum(0, 31, " + b + ")", x.sum(0, 31, b), 131);
        }
        DUE.due("14: sum(0, LOW, HIGH)", x.sum(0, LOW, HIGH), 3696);
        DUE.due("14: sum(0, -1, 32)", x.sum(0, -1, 32), 3696);
    }

    // Promise 14: "The wrapping sum", over the greatest int
    private static void sumWrapsAbove() {
        VersionTree x = new VersionTree();
        x.put(0, HIGH);
        x.put(31, 1);
        DUE.due("14: HIGH + 1", x.sum(0, 0, 31), LOW);
        for (int k = 0; k < 32; k++) {
            x.put(k, HIGH);
        }
        x.save();
        DUE.due("14: 2 * HIGH", x.sum(0, 0, 1), -2);
        DUE.due("14: 3 * HIGH", x.sum(1, 0, 2), HIGH - 2);
        DUE.due("14: 32 * HIGH", x.sum(1, 0, 31), -32);
    }

    // Promise 14: "The wrapping sum", under the least int
    private static void sumWrapsBelow() {
        VersionTree x = new VersionTree();
        x.put(0, LOW);
        x.put(31, -1);
        DUE.due("14: LOW - 1", x.sum(0, 0, 31), HIGH);
        for (int k = 0; k < 32; k++) {
            x.put(k, LOW);
        }
        x.save();
        DUE.due("14: 2 * LOW", x.sum(0, 30, 31), 0);
        DUE.due("14: 3 * LOW", x.sum(1, 29, 31), LOW);
        DUE.due("14: 32 * LOW", x.sum(1, 0, 31), 0);
    }

    // Promise 15: "0 when n or m stands for nothing": the one, the other, both
    private static void differenceOfNothing() {
        for (Case c : cases()) {
            for (int n : c.nothing) {
                String of = n + ", " + c.name;
                DUE.due("15: difference(n, 0) of " + of, c.x.difference(n, 0), 0);
                DUE.due("15: difference(0, n) of " + of, c.x.difference(0, n), 0);
                int kept = c.x.kept() / 1000;
                DUE.due("15: difference(n, kept) of " + of, c.x.difference(n, kept), 0);
                DUE.due("15: difference(kept, n) of " + of, c.x.difference(kept, n), 0);
                DUE.due("15: difference(n, n) of " + of, c.x.difference(n, n), 0);
                int other = c.nothing[0];
                DUE.due("15: difference of two nothings, " + of, c.x.difference(n, other), 0);
            }
        }
    }

    // Promise 15: one and the same table has no difference
    private static void differenceOfOneAndItself() {
        VersionTree x = Made.saved(4);
        for (int n = 0; n <= 4; n++) {
            DUE.due("15: difference(" + n + ", same)", x.difference(n, n), 0);
        }
        x.save();
        DUE.due("15: difference(0, 5) just saved", x.difference(0, 5), 0);
        x.goBack(3);
        DUE.due("15: difference(0, 3) just gone back", x.difference(0, 3), 0);
        DUE.due("15: difference(3, 0) just gone back", x.difference(3, 0), 0);
        VersionTree empty = new VersionTree();
        empty.save();
        DUE.due("15: difference(0, 1) of empty ones", empty.difference(0, 1), 0);
    }

    // Promise 15: "bit k for key k", bits 0 and 31 among them, and all at once
    private static void differenceAtTheFirstAndTheLastKey() {
        for (int k = 0; k < 32; k++) {
            VersionTree x = Made.saved(1);
            x.goBack(1);
            x.put(k, -9);
            DUE.due("15: another value of " + k, x.difference(0, 1), 1 << k);
            DUE.due("15: another value of " + k + ", turned", x.difference(1, 0), 1 << k);
            x.remove(k);
            DUE.due("15: without " + k, x.difference(0, 1), 1 << k);
            DUE.due("15: without " + k + ", turned", x.difference(1, 0), 1 << k);
        }
        VersionTree all = new VersionTree();
        all.save();
        for (int k = 0; k < 32; k++) {
            all.put(k, 0);
        }
        DUE.due("15: full and empty", all.difference(0, 1), -1);
        DUE.due("15: empty and full", all.difference(1, 0), -1);
    }

    // Promise 15: "there in one .. and not in the other", though get answers 0 for both
    private static void differenceOfZeroAndNotThere() {
        VersionTree x = new VersionTree();
        x.save();
        x.put(0, 0);
        x.put(31, 0);
        DUE.due("15: 0 and not there", x.difference(0, 1), 1 | 1 << 31);
        DUE.due("15: not there and 0", x.difference(1, 0), 1 | 1 << 31);
    }

    // Promise 15: what a key had before it was taken out is no value to differ by
    private static void differenceLeavesOldValuesOut() {
        VersionTree x = new VersionTree();
        x.put(8, 80);
        x.remove(8);
        x.save();
        x.put(8, 81);
        x.remove(8);
        DUE.due("15: taken out in both", x.difference(0, 1), 0);
        DUE.due("15: taken out in both, turned", x.difference(1, 0), 0);
    }

    // Promise 16: "0 when n stands for nothing"
    private static void keysOfNothing() {
        for (Case c : cases()) {
            for (int n : c.nothing) {
                DUE.due("16: keys(" + n + "), " + c.name, c.x.keys(n), 0);
            }
        }
    }

    // Promise 16: "bit k for key k", no bit, each bit and all bits
    private static void keysOfEmptyAndFull() {
        VersionTree x = new VersionTree();
        x.save();
        DUE.due("16: keys(0) of an empty one", x.keys(0), 0);
        DUE.due("16: keys(1) of an empty one", x.keys(1), 0);
        for (int k = 0; k < 32; k++) {
            x.put(k, 0);
            DUE.due("16: keys(0) with " + k, x.keys(0), 1 << k);
            x.remove(k);
        }
        VersionTree full = Made.saved(1);
        DUE.due("16: keys(0) of a full one", full.keys(0), -1);
        DUE.due("16: keys(1) of a full one", full.keys(1), -1);
    }
}
