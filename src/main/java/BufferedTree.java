public final class BufferedTree {
    private static final int KEYS = 64;
    private static final int MOST_MARKS = 3;
    private static final int KEPT = KEYS * MOST_MARKS;

    private static final int DONE = 1;
    private static final int NO_KEY = -1;
    private static final int NONE = -2;
    private static final int LEAST_INT = -2147483648;

    private final boolean[] present = new boolean[KEYS];
    private final int[] values = new int[KEYS];

    // All marks lie one behind the other, since arrays have one dimension only:
    // mark m has the places from m * KEYS on.
    private final boolean[] keptPresent = new boolean[KEPT];
    private final int[] keptValues = new int[KEPT];
    private int marks;

    public BufferedTree() {
        marks = 0;
    }

    public int put(int key, int value) {
        if (!isKey(key)) {
            return NO_KEY;
        }
        present[key] = true;
        values[key] = value;
        return DONE;
    }

    public int remove(int key) {
        if (!isKey(key)) {
            return NO_KEY;
        }
        present[key] = false;
        return DONE;
    }

    public int add(int key, int d) {
        if (!isKey(key)) {
            return NO_KEY;
        }
        values[key] = present[key] ? values[key] + d : d;
        present[key] = true;
        return DONE;
    }

    public int removeRange(int a, int b) {
        if (!areKeys(a, b)) {
            return NO_KEY;
        }
        for (int k = a; k <= b; k++) {
            present[k] = false;
        }
        return DONE;
    }

    public int addRange(int a, int b, int d) {
        if (!areKeys(a, b)) {
            return NO_KEY;
        }
        for (int k = a; k <= b; k++) {
            if (present[k]) {
                values[k] += d;
            }
        }
        return DONE;
    }

    public int raiseRange(int a, int b, int least) {
        if (!areKeys(a, b)) {
            return NO_KEY;
        }
        for (int k = a; k <= b; k++) {
            if (present[k] && values[k] < least) {
                values[k] = least;
            }
        }
        return DONE;
    }

    public int fillRange(int a, int b, int v) {
        if (!areKeys(a, b)) {
            return NO_KEY;
        }
        for (int k = a; k <= b; k++) {
            if (!present[k]) {
                present[k] = true;
                values[k] = v;
            }
        }
        return DONE;
    }

    public int mark() {
        if (marks >= MOST_MARKS) {
            return NONE;
        }
        int start = marks * KEYS;
        for (int k = 0; k < KEYS; k++) {
            keptPresent[start + k] = present[k];
            keptValues[start + k] = values[k];
        }
        marks++;
        return marks;
    }

    public int back() {
        if (marks <= 0) {
            return NONE;
        }
        marks--;
        int start = marks * KEYS;
        for (int k = 0; k < KEYS; k++) {
            present[k] = keptPresent[start + k];
            values[k] = keptValues[start + k];
        }
        return marks;
    }

    public int has(int key) {
        if (!isKey(key)) {
            return NO_KEY;
        }
        return present[key] ? 1 : 0;
    }

    public int get(int key) {
        if (!isKey(key)) {
            return 0;
        }
        return present[key] ? values[key] : 0;
    }

    public int size() {
        return presentIn(0, KEYS - 1);
    }

    // Every key is compared with k, rather than counting from k on,
    // because k may be any int.
    public int next(int k) {
        for (int key = 0; key < KEYS; key++) {
            if (key >= k && present[key]) {
                return key;
            }
        }
        return NONE;
    }

    public int previous(int k) {
        for (int key = KEYS - 1; key >= 0; key--) {
            if (key <= k && present[key]) {
                return key;
            }
        }
        return NONE;
    }

    public int keyAt(int i) {
        int below = 0;
        for (int key = 0; key < KEYS; key++) {
            if (present[key]) {
                if (below == i) {
                    return key;
                }
                below++;
            }
        }
        return NONE;
    }

    public int count(int a, int b) {
        if (!areKeys(a, b)) {
            return NO_KEY;
        }
        return presentIn(a, b);
    }

    public int sum(int a, int b) {
        if (!areKeys(a, b)) {
            return 0;
        }
        int total = 0;
        for (int k = a; k <= b; k++) {
            if (present[k]) {
                total += values[k];
            }
        }
        return total;
    }

    public int greatest(int a, int b) {
        if (!areKeys(a, b)) {
            return LEAST_INT;
        }
        int most = LEAST_INT;
        for (int k = a; k <= b; k++) {
            if (present[k] && values[k] > most) {
                most = values[k];
            }
        }
        return most;
    }

    public int changedSince() {
        if (marks <= 0) {
            return NONE;
        }
        int start = (marks - 1) * KEYS;
        int changed = 0;
        for (int k = 0; k < KEYS; k++) {
            if (differs(k, start + k)) {
                changed++;
            }
        }
        return changed;
    }

    // The value of a key that is not present is a leftover and must not count.
    private boolean differs(int key, int place) {
        if (present[key] != keptPresent[place]) {
            return true;
        }
        return present[key] && values[key] != keptValues[place];
    }

    private int presentIn(int a, int b) {
        int found = 0;
        for (int k = a; k <= b; k++) {
            if (present[k]) {
                found++;
            }
        }
        return found;
    }

    private static boolean isKey(int key) {
        return key >= 0 && key < KEYS;
    }

    private static boolean areKeys(int a, int b) {
        return a >= 0 && a < KEYS && b >= 0 && b < KEYS;
    }
}
