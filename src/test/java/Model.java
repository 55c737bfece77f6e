import java.util.TreeMap;

/** The document told once more, over the library's sorted maps, for ModelTest to compare with. */
final class Model {
    private TreeMap<Integer, Integer> working = new TreeMap<>();
    private final TreeMap<Integer, TreeMap<Integer, Integer>> versions = new TreeMap<>();

    private TreeMap<Integer, Integer> table(int n) {
        return n == 0 ? working : versions.get(n);
    }

    boolean put(int k, int v) {
        if (k < 0 || k > 31) {
            return false;
        }
        working.put(k, v);
        return true;
    }

    boolean remove(int k) {
        return working.remove(k) != null;
    }

    int save() {
        int number = versions.isEmpty() ? 1 : versions.lastKey() + 1;
        versions.put(number, new TreeMap<>(working));
        if (versions.size() > 4) {
            versions.pollFirstEntry();
        }
        return number;
    }

    boolean goBack(int n) {
        if (!versions.containsKey(n)) {
            return false;
        }
        working = new TreeMap<>(versions.get(n));
        versions.tailMap(n, false).clear();
        return true;
    }

    int kept() {
        return versions.isEmpty() ? 0 : versions.firstKey() + 1000 * versions.lastKey();
    }

    boolean has(int n, int k) {
        return table(n) != null && table(n).containsKey(k);
    }

    int get(int n, int k) {
        return has(n, k) ? table(n).get(k) : 0;
    }

    int count(int n) {
        return table(n) == null ? -1 : table(n).size();
    }

    int from(int n, int k) {
        Integer key = table(n) == null ? null : table(n).ceilingKey(k);
        return key == null ? -1 : key;
    }

    int upTo(int n, int k) {
        Integer key = table(n) == null ? null : table(n).floorKey(k);
        return key == null ? -1 : key;
    }

    int keyAt(int n, int i) {
        if (table(n) == null || i < 0 || i >= table(n).size()) {
            return -1;
        }
        return table(n).keySet().stream().skip(i).findFirst().get();
    }

    int rank(int n, int k) {
        return table(n) == null ? -1 : table(n).headMap(k).size();
    }

    int sum(int n, int a, int b) {
        if (table(n) == null || a > b) {
            return 0;
        }
        long total = 0;
        for (int value : table(n).subMap(a, true, b, true).values()) {
            total += value;
        }
        return (int) total;
    }

    int difference(int n, int m) {
        if (table(n) == null || table(m) == null) {
            return 0;
        }
        int bits = 0;
        for (int k = 0; k < 32; k++) {
            Integer one = table(n).get(k);
            Integer other = table(m).get(k);
            boolean same = one == null ? other == null : one.equals(other);
            bits |= same ? 0 : 1 << k;
        }
        return bits;
    }

    int keys(int n) {
        int bits = 0;
        if (table(n) != null) {
            for (int k : table(n).keySet()) {
                bits |= 1 << k;
            }
        }
        return bits;
    }
}
