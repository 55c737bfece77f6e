/** A sorted table with versions that can be looked into and gone back to. */
public final class VersionTree {
    public static final int NONE = -1;

    private static final int KEYS = 32;
    private static final int MOST_KEPT = 4;
    private static final int KEPT_FACTOR = 1000;

    // Places 0 .. 3 hold the kept versions, the place after them the working table.
    private static final int WORKING = 4;
    private static final int TABLES = 5;
    private static final int CELLS = 160; // TABLES * KEYS

    // Bit k of present[place] tells whether key k is there; only then does its cell in values count.
    private final int[] present = new int[TABLES];
    private final int[] values = new int[CELLS];

    // The kept versions are all numbers from least to greatest; none when greatest < least.
    private int least;
    private int greatest;

    public VersionTree() {
        least = 1;
        greatest = 0;
    }

    public boolean put(int k, int v) {
        if (!isKey(k)) {
            return false;
        }
        present[WORKING] |= 1 << k;
        values[WORKING * KEYS + k] = v;
        return true;
    }

    public boolean remove(int k) {
        if (!isThere(WORKING, k)) {
            return false;
        }
        present[WORKING] &= ~(1 << k);
        return true;
    }

    public int save() {
        int number = greatest + 1;
        int place = placeInRing(number);
        copyTable(WORKING, place);
        greatest = number;
        if (greatest - least >= MOST_KEPT) {
            least = least + 1;
        }
        return number;
    }

    public boolean goBack(int n) {
        if (!isKept(n)) {
            return false;
        }
        int place = placeInRing(n);
        copyTable(place, WORKING);
        greatest = n;
        return true;
    }

    public int kept() {
        if (greatest < least) {
            return 0;
        }
        return least + KEPT_FACTOR * greatest;
    }

    public boolean has(int n, int k) {
        int place = placeOf(n);
        return isThere(place, k);
    }

    public int get(int n, int k) {
        int place = placeOf(n);
        return valueAt(place, k);
    }

    public int count(int n) {
        int place = placeOf(n);
        return keysBelow(place, KEYS);
    }

    public int from(int n, int k) {
        int place = placeOf(n);
        for (int key = 0; key < KEYS; key++) {
            if (key >= k && isThere(place, key)) {
                return key;
            }
        }
        return NONE;
    }

    public int upTo(int n, int k) {
        int place = placeOf(n);
        for (int key = KEYS - 1; key >= 0; key--) {
            if (key <= k && isThere(place, key)) {
                return key;
            }
        }
        return NONE;
    }

    public int keyAt(int n, int i) {
        int place = placeOf(n);
        int lesser = 0;
        for (int key = 0; key < KEYS; key++) {
            if (isThere(place, key)) {
                if (lesser == i) {
                    return key;
                }
                lesser++;
            }
        }
        return NONE;
    }

    public int rank(int n, int k) {
        int place = placeOf(n);
        return keysBelow(place, k);
    }

    public int sum(int n, int a, int b) {
        int place = placeOf(n);
        int total = 0;
        for (int key = 0; key < KEYS; key++) {
            if (key >= a && key <= b) {
                total += valueAt(place, key);
            }
        }
        return total;
    }

    public int difference(int n, int m) {
        int one = placeOf(n);
        int other = placeOf(m);
        if (one == NONE || other == NONE) {
            return 0;
        }
        int bits = 0;
        for (int key = 0; key < KEYS; key++) {
            if (differsAt(one, other, key)) {
                bits |= 1 << key;
            }
        }
        return bits;
    }

    public int keys(int n) {
        int place = placeOf(n);
        if (place == NONE) {
            return 0;
        }
        return present[place];
    }

    private static boolean isKey(int k) {
        return k >= 0 && k < KEYS;
    }

    private boolean isKept(int n) {
        return n >= least && n <= greatest;
    }

    // At most four numbers in a row are kept, so no two of them share a place; a mask, unlike a
    // remainder, stays a place even for a number that has wrapped below 0.
    private static int placeInRing(int number) {
        return number & (MOST_KEPT - 1);
    }

    private int placeOf(int n) {
        if (n == 0) {
            return WORKING;
        }
        if (isKept(n)) {
            return placeInRing(n);
        }
        return NONE;
    }

    // A place NONE reads as an empty table, so that the callers need no case of their own for it.
    private boolean isThere(int place, int k) {
        return place >= 0 && place < TABLES && isKey(k) && (present[place] & (1 << k)) != 0;
    }

    private int valueAt(int place, int k) {
        if (!isThere(place, k)) {
            return 0;
        }
        return values[place * KEYS + k];
    }

    private int keysBelow(int place, int bound) {
        if (place == NONE) {
            return NONE;
        }
        int found = 0;
        for (int key = 0; key < KEYS; key++) {
            if (key < bound && isThere(place, key)) {
                found++;
            }
        }
        return found;
    }

    // The value of a key that is not there reads as 0, so presence is compared before the values.
    private boolean differsAt(int one, int other, int k) {
        if (isThere(one, k) != isThere(other, k)) {
            return true;
        }
        return valueAt(one, k) != valueAt(other, k);
    }

    private void copyTable(int source, int target) {
        present[target] = present[source];
        for (int key = 0; key < KEYS; key++) {
            values[target * KEYS + key] = values[source * KEYS + key];
        }
    }
}
