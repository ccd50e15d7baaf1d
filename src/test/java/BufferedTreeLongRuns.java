import java.util.ArrayDeque;
import java.util.Map;
import java.util.TreeMap;
import java.util.TreeSet;

/**
 * Runs of 512 calls, each answer held against a sorted map of the Java library.
 * The calls come from a fixed sequence of numbers, so every run of this test is the same.
 */
public final class BufferedTreeLongRuns {
    private static final int RUNS = 2000;
    private static final int CALLS = 512;
    private static final int MIN = Integer.MIN_VALUE;
    private static final int MAX = Integer.MAX_VALUE;
    private static final int[] EDGES = {-1, 64, 0, 63, MIN, MAX, -64, 128};
    private static final int[] FAR = {MIN, MAX, MIN + 1, MAX - 1, 1 << 30};

    private static long seed;
    private static TreeMap<Integer, Integer> now;
    private static ArrayDeque<TreeMap<Integer, Integer>> marks;

    private static int below(int bound) {
        seed = seed * 6364136223846793005L + 1442695040888963407L;
        return (int) ((seed >>> 33) % bound);
    }

    private static int someKey() {
        return below(24) == 0 ? EDGES[below(EDGES.length)] : below(64);
    }

    private static int someValue() {
        return below(10) == 0 ? FAR[below(FAR.length)] : below(21) - 10;
    }

    private static boolean isKey(int k) {
        return 0 <= k && k <= 63;
    }

    private static Map<Integer, Integer> range(int a, int b) {
        return a > b ? new TreeMap<>() : now.subMap(a, true, b, true);
    }

    private static int orNone(Integer key) {
        return key == null ? -2 : key;
    }

    private static int keyAt(int i) {
        return 0 <= i && i < now.size() ? (Integer) now.keySet().toArray()[i] : -2;
    }

    private static int changedSince() {
        if (marks.isEmpty()) {
            return -2;
        }
        TreeMap<Integer, Integer> then = marks.peek();
        TreeSet<Integer> keys = new TreeSet<>(now.keySet());
        keys.addAll(then.keySet());
        keys.removeIf(k -> now.containsKey(k) && now.get(k).equals(then.get(k)));
        return keys.size();
    }

    private static int mark() {
        if (marks.size() == 3) {
            return -2;
        }
        marks.push(new TreeMap<>(now));
        return marks.size();
    }

    private static int back() {
        if (marks.isEmpty()) {
            return -2;
        }
        now = marks.pop();
        return marks.size();
    }

    private static int fill(int a, int b, int v) {
        for (int k = a; k <= b; k++) {
            now.putIfAbsent(k, v);
        }
        return 1;
    }

    private static int change(int call, int a, int b, int v) {
        switch (call) {
            case 0: now.put(a, v); return 1;
            case 1: now.remove(a); return 1;
            case 2: now.merge(a, v, (x, y) -> x + y); return 1;
            case 3: range(a, b).clear(); return 1;
            case 4: range(a, b).replaceAll((k, x) -> x + v); return 1;
            case 5: range(a, b).replaceAll((k, x) -> x < v ? v : x); return 1;
            default: return fill(a, b, v);
        }
    }

    private static int question(int call, int a, int b) {
        switch (call) {
            case 9: return now.containsKey(a) ? 1 : 0;
            case 10: return now.getOrDefault(a, 0);
            case 15: return range(a, b).size();
            case 16: return range(a, b).values().stream().reduce(0, (x, y) -> x + y);
            default: return range(a, b).values().stream().max(Integer::compare).orElse(MIN);
        }
    }

    private static boolean takesOneKey(int call) {
        return call <= 2 || call == 9 || call == 10;
    }

    private static int refusal(int call) {
        return call == 10 || call == 16 ? 0 : call == 17 ? MIN : -1;
    }

    private static int due(int call, int a, int b, int v) {
        switch (call) {
            case 7: return mark();
            case 8: return back();
            case 11: return now.size();
            case 12: return orNone(now.ceilingKey(a));
            case 13: return orNone(now.floorKey(a));
            case 14: return keyAt(a);
            case 18: return changedSince();
            default: break;
        }
        if (!isKey(a) || !takesOneKey(call) && !isKey(b)) {
            return refusal(call);
        }
        return call < 7 ? change(call, a, b, v) : question(call, a, b);
    }

    private static int got(BufferedTree x, int call, int a, int b, int v) {
        switch (call) {
            case 0: return x.put(a, v);
            case 1: return x.remove(a);
            case 2: return x.add(a, v);
            case 3: return x.removeRange(a, b);
            case 4: return x.addRange(a, b, v);
            case 5: return x.raiseRange(a, b, v);
            case 6: return x.fillRange(a, b, v);
            case 7: return x.mark();
            case 8: return x.back();
            case 9: return x.has(a);
            case 10: return x.get(a);
            case 11: return x.size();
            case 12: return x.next(a);
            case 13: return x.previous(a);
            case 14: return x.keyAt(a);
            case 15: return x.count(a, b);
            case 16: return x.sum(a, b);
            case 17: return x.greatest(a, b);
            default: return x.changedSince();
        }
    }

    private static final String[] NAMES = {"put", "remove", "add", "removeRange", "addRange",
        "raiseRange", "fillRange", "mark", "back", "has", "get", "size", "next", "previous", "keyAt",
        "count", "sum", "greatest", "changedSince"};

    /** Tells the first wrong answer of a run; what follows one is of no use. */
    private static boolean runIsAsDue(int run) {
        seed = run;
        now = new TreeMap<>();
        marks = new ArrayDeque<>();
        BufferedTree x = new BufferedTree();
        for (int i = 1; i <= CALLS; i++) {
            int call = below(NAMES.length);
            int a = someKey();
            // Ranges are mostly short, so that some keys stay present and some do not.
            int b = below(3) == 0 ? someKey() : a > 63 ? a : a + below(9) - 1;
            int v = someValue();
            int want = due(call, a, b, v);
            int answer = got(x, call, a, b, v);
            if (answer != want) {
                System.out.println("run " + run + ", call " + i + ": " + NAMES[call] + " of (" + a + ", "
                    + b + ", " + v + ") answered " + answer + ", due is " + want);
                return false;
            }
        }
        return true;
    }

    public static void main(String[] args) {
        int wrong = 0;
        for (int run = 1; run <= RUNS; run++) {
            if (!runIsAsDue(run)) {
                wrong++;
            }
        }
        System.out.println(wrong == 0 ? "all runs are as due" : wrong + " runs are not as due");
        if (wrong != 0) {
            System.exit(1);
        }
    }
}
