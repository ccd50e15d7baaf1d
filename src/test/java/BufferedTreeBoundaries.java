import java.util.ArrayList;
import java.util.Arrays;
import java.util.List;

/**
 * For each sentence of the document that names a boundary case (too small, too large, empty, full,
 * a wrap-around, a refused call): runs of its own, told under the sentence's own words.
 *
 * A run is a list of steps on a new object, each "call arguments -> answer that is due". The step
 * "all -> 3:7 63:0" stands for the whole state: the present keys with their values, and no others.
 */
public final class BufferedTreeBoundaries {
    private static final int MIN = Integer.MIN_VALUE;
    private static final int MAX = Integer.MAX_VALUE;
    private static final int MOST_CALLS = 512;

    // Beside the nearest and the farthest: those that a mask or a cast would turn into a key.
    private static final int[] TOO_SMALL = {-1, -2, -63, -64, -128, -65536, MIN + 5, MIN};
    private static final int[] TOO_LARGE = {64, 65, 127, 128, 261, 65541, 1 << 30, MAX};

    private static final String[] ONE_KEY_CHANGES = {"put <key> 9", "remove <key>", "add <key> 9"};
    private static final String[] RANGE_CHANGES = {"removeRange <range>", "addRange <range> 9",
        "raiseRange <range> 2147483647", "fillRange <range> 9"};

    private static final String[] SAMPLE = {"put 0 5 -> 1", "put 10 -3 -> 1", "put 20 7 -> 1",
        "put 31 0 -> 1", "put 63 2147483647 -> 1"};
    private static final String SAMPLE_STATE = "all -> 0:5 10:-3 20:7 31:0 63:2147483647";

    // Three different marks, and a state that is none of them.
    private static final String[] FULL_OF_MARKS = {"put 5 1 -> 1", "mark -> 1", "put 5 2 -> 1",
        "put 6 0 -> 1", "mark -> 2", "remove 5 -> 1", "mark -> 3", "put 63 8 -> 1"};
    private static final String[] STILL_FULL_OF_MARKS = {"all -> 6:0 63:8", "changedSince -> 1",
        "mark -> -2", "back -> 2", "all -> 6:0", "back -> 1", "all -> 5:2 6:0", "back -> 0",
        "all -> 5:1", "back -> -2", "all -> 5:1"};

    private static String sentence = "";
    private static int wrong = 0;
    private static int calls = 0;

    private static void says(String place, String words) {
        sentence = place + ": \"" + words + "\"";
    }

    private static void tell(String what) {
        wrong++;
        System.out.println(sentence + " - " + what);
    }

    private static int answer(BufferedTree x, String name, int a, int b, int c) {
        calls++;
        switch (name) {
            case "put": return x.put(a, b);
            case "remove": return x.remove(a);
            case "add": return x.add(a, b);
            case "removeRange": return x.removeRange(a, b);
            case "addRange": return x.addRange(a, b, c);
            case "raiseRange": return x.raiseRange(a, b, c);
            case "fillRange": return x.fillRange(a, b, c);
            case "mark": return x.mark();
            case "back": return x.back();
            case "has": return x.has(a);
            case "get": return x.get(a);
            case "size": return x.size();
            case "next": return x.next(a);
            case "previous": return x.previous(a);
            case "keyAt": return x.keyAt(a);
            case "count": return x.count(a, b);
            case "sum": return x.sum(a, b);
            case "greatest": return x.greatest(a, b);
            case "changedSince": return x.changedSince();
            default: throw new IllegalArgumentException("no call is named " + name);
        }
    }

    private static String state(BufferedTree x) {
        StringBuilder text = new StringBuilder();
        for (int k = 0; k < 64; k++) {
            if (answer(x, "has", k, 0, 0) == 1) {
                text.append(text.length() == 0 ? "" : " ").append(k).append(':')
                    .append(answer(x, "get", k, 0, 0));
            }
        }
        return text.toString();
    }

    private static String answerTo(BufferedTree x, String call) {
        if (call.equals("all")) {
            return state(x);
        }
        String[] words = call.split(" ");
        int[] numbers = new int[3];
        for (int i = 1; i < words.length; i++) {
            numbers[i - 1] = Integer.parseInt(words[i]);
        }
        return String.valueOf(answer(x, words[0], numbers[0], numbers[1], numbers[2]));
    }

    /** Tells the first wrong step; what follows one is of no use. */
    private static void run(String... steps) {
        BufferedTree x = new BufferedTree();
        calls = 0;
        for (int i = 0; i < steps.length; i++) {
            String[] sides = steps[i].split(" -> ", -1);
            String got;
            try {
                got = answerTo(x, sides[0]);
            } catch (ArrayIndexOutOfBoundsException e) {
                got = e.toString();
            }
            if (!got.equals(sides[1])) {
                String[] before = Arrays.copyOf(steps, i);
                tell(sides[0] + " answered " + got + ", due is " + sides[1] + ", after "
                    + String.join("; ", before));
                return;
            }
        }
        if (calls > MOST_CALLS) {
            tell("the test is wrong: it uses an object for " + calls + " calls");
        }
    }

    private static void runAfter(String[] first, String... then) {
        run(joined(first, then));
    }

    private static String[] joined(String[]... parts) {
        List<String> steps = new ArrayList<>();
        for (String[] part : parts) {
            steps.addAll(Arrays.asList(part));
        }
        return steps.toArray(new String[0]);
    }

    private static String all64(int value) {
        StringBuilder text = new StringBuilder("all ->");
        for (int k = 0; k < 64; k++) {
            text.append(' ').append(k).append(':').append(value);
        }
        return text.toString();
    }

    /** Each range of which at least one side is too small or too large. */
    private static List<String> wrongRanges() {
        List<String> ranges = new ArrayList<>();
        for (int[] wrongs : new int[][] {TOO_SMALL, TOO_LARGE}) {
            for (int bad : wrongs) {
                for (int good : new int[] {0, 20, 63}) {
                    ranges.add(bad + " " + good);
                    ranges.add(good + " " + bad);
                }
                ranges.add(bad + " " + bad);
            }
        }
        ranges.add("-1 64");
        ranges.add("64 -1");
        ranges.add(MIN + " " + MAX);
        ranges.add(MAX + " " + MIN);
        return ranges;
    }

    private static void refusesEachWrongKey(String call, int due) {
        for (int[] wrongs : new int[][] {TOO_SMALL, TOO_LARGE}) {
            for (int bad : wrongs) {
                runAfter(SAMPLE, call.replace("<key>", "" + bad) + " -> " + due, SAMPLE_STATE);
            }
        }
    }

    private static void refusesEachWrongRange(String call, int due) {
        for (String range : wrongRanges()) {
            runAfter(SAMPLE, call.replace("<range>", range) + " -> " + due, SAMPLE_STATE);
        }
    }

    // ---- What it is ----

    private static void whatItIs() {
        says("What it is", "An object is used for at most 512 calls after it has been made");
        List<String> steps = new ArrayList<>();
        for (int i = 1; i <= 511; i++) {
            steps.add("add 63 1 -> 1");
        }
        steps.add("get 63 -> 511");
        run(steps.toArray(new String[0]));
        steps.clear();
        for (int i = 1; i <= 85; i++) {
            steps.addAll(Arrays.asList("mark -> 1", "mark -> 2", "mark -> 3", "back -> 2", "back -> 1",
                "back -> 0"));
        }
        steps.addAll(Arrays.asList("mark -> 1", "changedSince -> 0"));
        run(steps.toArray(new String[0]));
    }

    // ---- Terms ----

    private static void termsKeysAndValues() {
        says("Terms", "There are 64 KEYS, 0 to 63.");
        List<String> steps = new ArrayList<>();
        StringBuilder state = new StringBuilder("all ->");
        for (int k = 0; k < 64; k++) {
            steps.add("put " + k + " " + (1000 - k) + " -> 1");
            state.append(' ').append(k).append(':').append(1000 - k);
        }
        steps.add("put -1 5 -> -1");
        steps.add("put 64 5 -> -1");
        steps.add("size -> 64");
        steps.add(state.toString());
        run(steps.toArray(new String[0]));

        says("Terms", "A key is PRESENT with a VALUE, an int, or it is not");
        for (int value : new int[] {MIN, MIN + 1, -65536, -129, -2, -1, 0, 1, 255, 65536, MAX - 1, MAX}) {
            run("put 4 " + value + " -> 1", "has 4 -> 1", "get 4 -> " + value, "remove 4 -> 1",
                "has 4 -> 0", "get 4 -> 0");
        }

        says("Terms", "at first none is.");
        run("all -> ", "size -> 0");
    }

    private static void termsWrap() {
        says("Terms", "Sums and differences wrap as those of ints do.");
        run("put 1 " + MAX + " -> 1", "add 1 1 -> 1", "get 1 -> " + MIN);
        run("put 1 " + MIN + " -> 1", "add 1 -1 -> 1", "get 1 -> " + MAX);
        run("put 1 " + MIN + " -> 1", "add 1 " + MIN + " -> 1", "get 1 -> 0", "has 1 -> 1");
        run("put 1 " + MAX + " -> 1", "add 1 " + MAX + " -> 1", "get 1 -> -2");
        run("put 1 " + MAX + " -> 1", "put 2 -1 -> 1", "addRange 0 63 1 -> 1",
            "all -> 1:" + MIN + " 2:0");
        run("put 1 " + MIN + " -> 1", "put 2 0 -> 1", "addRange 0 63 -1 -> 1",
            "all -> 1:" + MAX + " 2:-1");
        run("put 1 " + MAX + " -> 1", "put 2 1 -> 1", "sum 0 63 -> " + MIN);
        run("put 1 " + MIN + " -> 1", "put 2 -1 -> 1", "sum 0 63 -> " + MAX);
        run("put 1 " + MIN + " -> 1", "put 2 " + MIN + " -> 1", "sum 0 63 -> 0");
        run("fillRange 0 63 " + MAX + " -> 1", "sum 0 63 -> -64", "sum 0 62 -> " + (MAX - 62));
        // What wraps on the way and comes back is as if it had not wrapped.
        run("put 1 " + MAX + " -> 1", "put 2 9 -> 1", "put 3 -9 -> 1", "sum 0 63 -> " + MAX);
        run("put 1 7 -> 1", "addRange 1 1 " + MAX + " -> 1", "addRange 1 1 " + MIN + " -> 1",
            "add 1 1 -> 1", "get 1 -> 7");
        // A wrapped value is compared as what it has become.
        run("put 1 " + MAX + " -> 1", "addRange 1 1 1 -> 1", "raiseRange 1 1 0 -> 1", "get 1 -> 0");
        run("put 1 " + MAX + " -> 1", "add 1 1 -> 1", "put 2 -5 -> 1", "greatest 0 63 -> -5");
    }

    private static void termsRange() {
        says("Terms", "THE RANGE from a to b is all keys k with a <= k <= b");
        String[] fill = {"fillRange 0 63 1 -> 1", "removeRange 6 57 -> 1"};
        runAfter(fill, "removeRange 2 4 -> 1", "all -> 0:1 1:1 5:1 58:1 59:1 60:1 61:1 62:1 63:1");
        runAfter(fill, "addRange 2 4 5 -> 1",
            "all -> 0:1 1:1 2:6 3:6 4:6 5:1 58:1 59:1 60:1 61:1 62:1 63:1");
        runAfter(fill, "raiseRange 2 4 5 -> 1",
            "all -> 0:1 1:1 2:5 3:5 4:5 5:1 58:1 59:1 60:1 61:1 62:1 63:1");
        run("fillRange 2 4 5 -> 1", "all -> 2:5 3:5 4:5");
        runAfter(fill, "count 2 4 -> 3", "sum 2 4 -> 3", "put 2 8 -> 1", "put 4 9 -> 1",
            "put 1 99 -> 1", "put 5 99 -> 1", "greatest 2 4 -> 9", "greatest 2 3 -> 8");
        for (int k : new int[] {0, 1, 31, 32, 62, 63}) {
            String one = k + " " + k;
            run("fillRange " + one + " 4 -> 1", "all -> " + k + ":4", "addRange " + one + " 2 -> 1",
                "all -> " + k + ":6", "raiseRange " + one + " 9 -> 1", "all -> " + k + ":9",
                "count " + one + " -> 1", "sum " + one + " -> 9", "greatest " + one + " -> 9",
                "removeRange " + one + " -> 1", "all -> ");
        }
        run("fillRange 0 63 4 -> 1", all64(4), "addRange 0 63 1 -> 1", "raiseRange 0 63 6 -> 1", all64(6),
            "count 0 63 -> 64", "sum 0 63 -> 384", "greatest 0 63 -> 6", "removeRange 0 63 -> 1", "all -> ");

        says("Terms", "(none if a is greater than b)");
        for (String empty : new String[] {"63 0", "1 0", "63 62", "11 10", "10 9", "31 0", "63 31"}) {
            for (String change : RANGE_CHANGES) {
                runAfter(SAMPLE, change.replace("<range>", empty) + " -> 1", SAMPLE_STATE);
            }
            runAfter(SAMPLE, "count " + empty + " -> 0", "sum " + empty + " -> 0",
                "greatest " + empty + " -> " + MIN);
            run("fillRange " + empty + " 9 -> 1", "all -> ");
        }
    }

    private static void termsMarks() {
        says("Terms", "A MARK keeps which keys are present with what values");
        run("mark -> 1", "fillRange 0 63 7 -> 1", "back -> 0", "all -> ");
        run("fillRange 0 63 7 -> 1", "mark -> 1", "removeRange 0 63 -> 1", "back -> 0", all64(7));
        run("put 0 0 -> 1", "put 63 " + MIN + " -> 1", "mark -> 1", "put 0 1 -> 1", "put 1 0 -> 1",
            "remove 63 -> 1", "back -> 0", "all -> 0:0 63:" + MIN);

        says("Terms", "there are at most 3");
        run("mark -> 1", "mark -> 2", "mark -> 3", "mark -> -2", "mark -> -2", "back -> 2", "mark -> 3",
            "mark -> -2");

        says("Terms", "the last one first to be gone back to");
        run("put 1 1 -> 1", "mark -> 1", "put 1 2 -> 1", "mark -> 2", "put 1 3 -> 1", "mark -> 3",
            "put 1 4 -> 1", "back -> 2", "get 1 -> 3", "back -> 1", "get 1 -> 2", "back -> 0", "get 1 -> 1");
    }

    private static void termsRefusals() {
        says("Terms", "A refused call changes nothing.");
        for (int bad : new int[] {MIN, -1, 64, MAX}) {
            for (String change : ONE_KEY_CHANGES) {
                String refused = change.replace("<key>", "" + bad) + " -> -1";
                run(joined(FULL_OF_MARKS, new String[] {refused}, STILL_FULL_OF_MARKS));
            }
            for (String change : RANGE_CHANGES) {
                for (String range : new String[] {bad + " 63", "0 " + bad, "63 " + bad, bad + " 0"}) {
                    String refused = change.replace("<range>", range) + " -> -1";
                    run(joined(FULL_OF_MARKS, new String[] {refused}, STILL_FULL_OF_MARKS));
                }
            }
        }
        run(joined(FULL_OF_MARKS, new String[] {"mark -> -2", "mark -> -2"}, STILL_FULL_OF_MARKS));
        runAfter(SAMPLE, "back -> -2", SAMPLE_STATE, "back -> -2", "mark -> 1");

        // No call has two tests with different answers; what can be seen is that both sides being
        // wrong is the same as one, and that a wrong side comes before the range's being empty.
        says("Terms", "The tests of a call are made in the order in which they are named.");
        for (String range : new String[] {"-1 64", "64 -1", "64 0", "63 -1", MAX + " " + MIN}) {
            for (String change : RANGE_CHANGES) {
                runAfter(SAMPLE, change.replace("<range>", range) + " -> -1", SAMPLE_STATE);
            }
            runAfter(SAMPLE, "count " + range + " -> -1", "sum " + range + " -> 0",
                "greatest " + range + " -> " + MIN);
        }

        says("Terms", "A key that is not 0 to 63: -1, where nothing else is said");
        for (String call : ONE_KEY_CHANGES) {
            refusesEachWrongKey(call, -1);
        }
        refusesEachWrongKey("has <key>", -1);

        says("Terms", "(a and b of a range, too)");
        for (String call : RANGE_CHANGES) {
            refusesEachWrongRange(call, -1);
        }
        refusesEachWrongRange("count <range>", -1);
    }

    private static void termsKindsOfCalls() {
        says("Terms", "changes; each answers 1 if it is not refused");
        run("remove 0 -> 1", "removeRange 0 63 -> 1", "addRange 0 63 1 -> 1", "raiseRange 0 63 1 -> 1",
            "all -> ", "put 0 0 -> 1", "put 0 0 -> 1", "add 0 0 -> 1", "add 1 0 -> 1", "fillRange 0 1 5 -> 1",
            "addRange 0 63 0 -> 1", "raiseRange 0 63 0 -> 1", "fillRange 1 0 5 -> 1", "all -> 0:0 1:0");

        says("Terms", "questions; they change nothing");
        String[] questions = {"has -1 -> -1", "get -1 -> 0", "next -1 -> 6", "previous -1 -> -2",
            "keyAt -1 -> -2", "has 63 -> 1", "has 0 -> 0", "has 64 -> -1", "get 63 -> 8", "get 0 -> 0",
            "get 64 -> 0", "size -> 2", "next 7 -> 63", "next 64 -> -2", "previous 62 -> 6",
            "previous 0 -> -2", "keyAt 1 -> 63", "keyAt 2 -> -2", "count 0 63 -> 2", "count 0 64 -> -1",
            "count 1 0 -> 0", "sum 0 63 -> 8", "sum 0 64 -> 0", "sum 1 0 -> 0", "greatest 0 63 -> 8",
            "greatest 0 64 -> " + MIN, "greatest 1 0 -> " + MIN, "changedSince -> 1"};
        for (String question : questions) {
            run(joined(FULL_OF_MARKS, new String[] {question, question}, STILL_FULL_OF_MARKS));
        }
        run("changedSince -> -2", "size -> 0", "next 0 -> -2", "all -> ", "back -> -2", "mark -> 1");
    }

    // ---- The promises ----

    private static void promise1() {
        says("Promise 1", "No key is present; no marks.");
        run("size -> 0", "all -> ", "next " + MIN + " -> -2", "previous " + MAX + " -> -2", "keyAt 0 -> -2",
            "count 0 63 -> 0", "sum 0 63 -> 0", "greatest 0 63 -> " + MIN);
        run("back -> -2");
        run("changedSince -> -2");
        run("mark -> 1", "mark -> 2", "mark -> 3", "mark -> -2");
    }

    private static void promise2() {
        says("Promise 2", "The key is present then with the value, whatever was before.");
        for (int k : new int[] {0, 1, 62, 63}) {
            run("put " + k + " 5 -> 1", "all -> " + k + ":5", "put " + k + " -6 -> 1", "all -> " + k + ":-6",
                "put " + k + " -6 -> 1", "all -> " + k + ":-6", "put " + k + " 0 -> 1", "all -> " + k + ":0",
                "remove " + k + " -> 1", "put " + k + " " + MAX + " -> 1", "all -> " + k + ":" + MAX);
        }
        run("fillRange 0 63 1 -> 1", "put 63 2 -> 1", "size -> 64", "get 63 -> 2", "sum 0 62 -> 63");

        says("Promise 2", "Key: -1.");
        refusesEachWrongKey("put <key> 9", -1);
    }

    private static void promise3() {
        says("Promise 3", "The key is not present then.");
        runAfter(SAMPLE, "remove 0 -> 1", "all -> 10:-3 20:7 31:0 63:" + MAX, "remove 63 -> 1",
            "all -> 10:-3 20:7 31:0", "remove 31 -> 1", "remove 31 -> 1", "remove 30 -> 1",
            "all -> 10:-3 20:7", "remove 10 -> 1", "remove 20 -> 1", "all -> ", "remove 20 -> 1", "all -> ");
        run("fillRange 0 63 1 -> 1", "remove 63 -> 1", "has 63 -> 0", "size -> 63");

        says("Promise 3", "Key: -1.");
        refusesEachWrongKey("remove <key>", -1);
    }

    private static void promise4() {
        says("Promise 4", "If the key is present, its value grows by d");
        run("put 3 0 -> 1", "add 3 0 -> 1", "all -> 3:0", "add 3 -4 -> 1", "all -> 3:-4", "add 3 4 -> 1",
            "all -> 3:0");
        run("put 63 " + MAX + " -> 1", "add 63 1 -> 1", "all -> 63:" + MIN, "add 63 -1 -> 1", "all -> 63:" + MAX);
        run("put 0 -1 -> 1", "add 0 " + MIN + " -> 1", "all -> 0:" + MAX);

        says("Promise 4", "else it is present then with the value d.");
        run("add 0 0 -> 1", "all -> 0:0", "add 63 " + MIN + " -> 1", "all -> 0:0 63:" + MIN);
        run("put 3 8 -> 1", "remove 3 -> 1", "add 3 2 -> 1", "all -> 3:2");
        run("put 3 8 -> 1", "removeRange 0 63 -> 1", "add 3 2 -> 1", "all -> 3:2");
        run("addRange 0 63 8 -> 1", "raiseRange 0 63 8 -> 1", "add 3 2 -> 1", "all -> 3:2");
        run("mark -> 1", "put 3 8 -> 1", "back -> 0", "add 3 2 -> 1", "all -> 3:2");

        says("Promise 4", "Key: -1.");
        refusesEachWrongKey("add <key> 9", -1);
    }

    private static void promise5() {
        says("Promise 5", "No key of the range is present then.");
        runAfter(SAMPLE, "removeRange 1 9 -> 1", SAMPLE_STATE, "removeRange 10 30 -> 1",
            "all -> 0:5 31:0 63:" + MAX, "removeRange 63 63 -> 1", "all -> 0:5 31:0", "removeRange 0 0 -> 1",
            "all -> 31:0", "removeRange 0 63 -> 1", "all -> ");
        run("removeRange 0 63 -> 1", "all -> ");
        run("fillRange 0 63 1 -> 1", "removeRange 1 62 -> 1", "all -> 0:1 63:1");

        says("Promise 5", "Keys: -1.");
        refusesEachWrongRange("removeRange <range>", -1);
    }

    private static void promise6() {
        says("Promise 6", "The values of all keys of the range that are present grow by d.");
        run("addRange 0 63 5 -> 1", "all -> ");
        runAfter(SAMPLE, "addRange 10 31 1 -> 1", "all -> 0:5 10:-2 20:8 31:1 63:" + MAX,
            "addRange 0 63 0 -> 1", "all -> 0:5 10:-2 20:8 31:1 63:" + MAX);
        runAfter(SAMPLE, "addRange 0 63 1 -> 1", "all -> 0:6 10:-2 20:8 31:1 63:" + MIN);
        runAfter(SAMPLE, "addRange 0 63 " + MIN + " -> 1",
            "all -> 0:-2147483643 10:2147483645 20:-2147483641 31:-2147483648 63:-1");
        run("fillRange 0 63 2 -> 1", "addRange 0 63 -3 -> 1", all64(-1));
        // A key that is not present has nothing that grows, not even for later.
        run("addRange 0 63 5 -> 1", "fillRange 7 7 1 -> 1", "add 8 1 -> 1", "put 9 1 -> 1",
            "all -> 7:1 8:1 9:1");

        says("Promise 6", "Keys: -1.");
        refusesEachWrongRange("addRange <range> 9", -1);
    }

    private static void promise7() {
        says("Promise 7", "Of the keys of the range that are present, those with a value below 'least' "
            + "get the value 'least'.");
        run("raiseRange 0 63 5 -> 1", "all -> ", "fillRange 7 7 1 -> 1", "add 8 1 -> 1", "all -> 7:1 8:1");
        run("put 0 4 -> 1", "put 1 5 -> 1", "put 63 6 -> 1", "raiseRange 0 63 5 -> 1", "all -> 0:5 1:5 63:6");
        run("put 0 -6 -> 1", "put 1 -5 -> 1", "put 63 -4 -> 1", "raiseRange 0 63 -5 -> 1",
            "all -> 0:-5 1:-5 63:-4");
        // The distances of these do not fit an int.
        run("put 0 " + MIN + " -> 1", "put 1 -1 -> 1", "put 2 " + MAX + " -> 1", "raiseRange 0 2 " + MIN + " -> 1",
            "all -> 0:" + MIN + " 1:-1 2:" + MAX, "raiseRange 0 2 " + (MIN + 1) + " -> 1",
            "all -> 0:" + (MIN + 1) + " 1:-1 2:" + MAX, "raiseRange 0 2 " + MAX + " -> 1",
            "all -> 0:" + MAX + " 1:" + MAX + " 2:" + MAX);
        run("put 9 1 -> 1", "put 10 1 -> 1", "put 11 1 -> 1", "put 12 1 -> 1", "raiseRange 10 11 2 -> 1",
            "all -> 9:1 10:2 11:2 12:1");
        run("fillRange 0 63 -1 -> 1", "raiseRange 0 63 0 -> 1", all64(0));

        says("Promise 7", "Keys: -1.");
        refusesEachWrongRange("raiseRange <range> 2147483647", -1);
    }

    private static void promise8() {
        says("Promise 8", "Every key of the range that is not present is present then with the value v.");
        run("fillRange 0 63 " + MIN + " -> 1", all64(MIN));
        run("fillRange 0 63 0 -> 1", all64(0), "fillRange 0 63 1 -> 1", all64(0));
        run("put 10 0 -> 1", "fillRange 9 11 4 -> 1", "all -> 9:4 10:0 11:4");
        run("fillRange 63 63 4 -> 1", "fillRange 0 0 5 -> 1", "all -> 0:5 63:4");
        run("put 10 8 -> 1", "remove 10 -> 1", "put 11 8 -> 1", "removeRange 11 12 -> 1", "fillRange 10 11 4 -> 1",
            "all -> 10:4 11:4");

        says("Promise 8", "Keys: -1.");
        refusesEachWrongRange("fillRange <range> 9", -1);
    }

    private static void promise9() {
        says("Promise 9", "Makes a mark of all as it is now.");
        run("mark -> 1", "put 0 1 -> 1", "back -> 0", "all -> ");
        run("fillRange 0 63 3 -> 1", "mark -> 1", "addRange 0 63 1 -> 1", "remove 0 -> 1", "back -> 0", all64(3));
        runAfter(SAMPLE, "mark -> 1", SAMPLE_STATE, "put 1 1 -> 1", "mark -> 2", "removeRange 0 63 -> 1",
            "back -> 1", "all -> 0:5 1:1 10:-3 20:7 31:0 63:" + MAX, "back -> 0", SAMPLE_STATE);
        // A mark in the place of a gone one has nothing of the gone one.
        run("fillRange 0 63 3 -> 1", "mark -> 1", "back -> 0", "removeRange 0 63 -> 1", "put 4 4 -> 1", "mark -> 1",
            "changedSince -> 0", "put 5 5 -> 1", "back -> 0", "all -> 4:4");

        says("Promise 9", "There are 3: -2.");
        runAfter(FULL_OF_MARKS, "mark -> -2");
        run(joined(FULL_OF_MARKS, new String[] {"mark -> -2"}, STILL_FULL_OF_MARKS));
        run("mark -> 1", "mark -> 2", "mark -> 3", "mark -> -2", "back -> 2", "back -> 1", "back -> 0",
            "mark -> 1", "mark -> 2", "mark -> 3", "mark -> -2");

        says("Promise 9", "Else answers how many there are.");
        run("mark -> 1", "mark -> 2", "back -> 1", "mark -> 2", "mark -> 3", "back -> 2", "mark -> 3");
    }

    private static void promise10() {
        says("Promise 10", "All is as it was at the last mark; that mark is gone then.");
        run("mark -> 1", "back -> 0", "all -> ", "back -> -2", "changedSince -> -2");
        run("put 1 1 -> 1", "mark -> 1", "put 1 2 -> 1", "mark -> 2", "put 1 3 -> 1", "back -> 1", "all -> 1:2",
            "put 1 4 -> 1", "put 2 4 -> 1", "back -> 0", "all -> 1:1", "back -> -2", "all -> 1:1");
        run("put 0 0 -> 1", "put 63 9 -> 1", "mark -> 1", "remove 0 -> 1", "add 63 1 -> 1", "put 32 0 -> 1",
            "back -> 0", "all -> 0:0 63:9");
        run("fillRange 0 63 3 -> 1", "mark -> 1", "removeRange 0 63 -> 1", "back -> 0", all64(3));
        // Two marks of the same are two marks.
        run("put 1 1 -> 1", "mark -> 1", "mark -> 2", "put 1 2 -> 1", "back -> 1", "all -> 1:1", "put 1 3 -> 1",
            "back -> 0", "all -> 1:1");

        says("Promise 10", "There is none: -2.");
        run("back -> -2", "all -> ");
        runAfter(SAMPLE, "back -> -2", SAMPLE_STATE);
        runAfter(SAMPLE, "mark -> 1", "back -> 0", "put 0 6 -> 1", "back -> -2", "get 0 -> 6", "back -> -2",
            "mark -> 1");

        says("Promise 10", "Else answers how many are left.");
        run("mark -> 1", "mark -> 2", "mark -> 3", "back -> 2", "back -> 1", "back -> 0", "mark -> 1", "back -> 0");
    }

    private static void promise11() {
        says("Promise 11", "1 if a key is present, else 0.");
        runAfter(SAMPLE, "has 0 -> 1", "has 63 -> 1", "has 31 -> 1", "has 1 -> 0", "has 62 -> 0", "remove 0 -> 1",
            "has 0 -> 0", "removeRange 63 63 -> 1", "has 63 -> 0", "add 62 0 -> 1", "has 62 -> 1",
            "put 61 " + MIN + " -> 1", "has 61 -> 1");
        run("has 0 -> 0", "has 63 -> 0", "fillRange 0 63 0 -> 1", "has 0 -> 1", "has 63 -> 1");

        says("Promise 11", "Key: -1.");
        refusesEachWrongKey("has <key>", -1);
        run("has -1 -> -1", "has 64 -> -1");
        run("fillRange 0 63 1 -> 1", "has -1 -> -1", "has 64 -> -1");
    }

    private static void promise12() {
        says("Promise 12", "A key's value; 0 if it is not present");
        run("get 0 -> 0", "get 63 -> 0");
        runAfter(SAMPLE, "get 0 -> 5", "get 10 -> -3", "get 31 -> 0", "get 63 -> " + MAX, "get 1 -> 0", "get 62 -> 0",
            "remove 0 -> 1", "get 0 -> 0", "removeRange 63 63 -> 1", "get 63 -> 0");
        run("addRange 0 63 5 -> 1", "raiseRange 0 63 5 -> 1", "get 5 -> 0");

        says("Promise 12", "or no key.");
        refusesEachWrongKey("get <key>", 0);
        for (int[] wrongs : new int[][] {TOO_SMALL, TOO_LARGE}) {
            for (int bad : wrongs) {
                run("fillRange 0 63 3 -> 1", "get " + bad + " -> 0");
            }
        }
    }

    private static void promise13() {
        says("Promise 13", "How many keys are present.");
        run("size -> 0", "remove 0 -> 1", "size -> 0", "put 0 0 -> 1", "size -> 1", "put 0 1 -> 1", "size -> 1",
            "add 0 1 -> 1", "size -> 1", "add 63 0 -> 1", "size -> 2", "fillRange 0 62 0 -> 1", "size -> 64",
            "fillRange 0 63 1 -> 1", "size -> 64", "put 64 1 -> -1", "size -> 64", "remove 63 -> 1", "size -> 63",
            "remove 63 -> 1", "size -> 63", "removeRange 0 62 -> 1", "size -> 0");
        run("put 1 1 -> 1", "mark -> 1", "put 2 2 -> 1", "size -> 2", "back -> 0", "size -> 1");
    }

    private static void promise14() {
        says("Promise 14", "The least present key that is at least k (any int)");
        runAfter(SAMPLE, "next " + MIN + " -> 0", "next -64 -> 0", "next -1 -> 0", "next 0 -> 0", "next 1 -> 10",
            "next 10 -> 10", "next 11 -> 20", "next 32 -> 63", "next 62 -> 63", "next 63 -> 63");
        run("put 63 0 -> 1", "next " + MIN + " -> 63", "next 0 -> 63");
        run("fillRange 0 63 1 -> 1", "next " + MIN + " -> 0", "next 0 -> 0", "next 31 -> 31", "next 63 -> 63");

        says("Promise 14", "-2 if there is none.");
        for (int k : new int[] {MIN, -1, 0, 63, 64, MAX}) {
            run("next " + k + " -> -2");
        }
        for (int k : new int[] {64, 65, 127, 128, MAX - 1, MAX}) {
            run("fillRange 0 63 1 -> 1", "next " + k + " -> -2");
        }
        run("put 0 0 -> 1", "put 62 0 -> 1", "next 63 -> -2", "remove 62 -> 1", "next 1 -> -2");
    }

    private static void promise15() {
        says("Promise 15", "The greatest present key that is at most k (any int)");
        runAfter(SAMPLE, "previous " + MAX + " -> 63", "previous 128 -> 63", "previous 64 -> 63",
            "previous 63 -> 63", "previous 62 -> 31", "previous 31 -> 31", "previous 30 -> 20", "previous 9 -> 0",
            "previous 1 -> 0", "previous 0 -> 0");
        run("put 0 0 -> 1", "previous " + MAX + " -> 0", "previous 63 -> 0");
        run("fillRange 0 63 1 -> 1", "previous " + MAX + " -> 63", "previous 63 -> 63", "previous 31 -> 31",
            "previous 0 -> 0");

        says("Promise 15", "-2 if there is none.");
        for (int k : new int[] {MIN, -1, 0, 63, 64, MAX}) {
            run("previous " + k + " -> -2");
        }
        for (int k : new int[] {-1, -2, -64, MIN + 1, MIN}) {
            run("fillRange 0 63 1 -> 1", "previous " + k + " -> -2");
        }
        run("put 1 0 -> 1", "put 63 0 -> 1", "previous 0 -> -2", "remove 1 -> 1", "previous 62 -> -2");
    }

    private static void promise16() {
        says("Promise 16", "The present key with exactly i present keys below it");
        runAfter(SAMPLE, "keyAt 0 -> 0", "keyAt 1 -> 10", "keyAt 2 -> 20", "keyAt 3 -> 31", "keyAt 4 -> 63");
        run("put 63 0 -> 1", "keyAt 0 -> 63");
        List<String> steps = new ArrayList<>();
        steps.add("fillRange 0 63 1 -> 1");
        for (int i = 0; i < 64; i++) {
            steps.add("keyAt " + i + " -> " + i);
        }
        run(steps.toArray(new String[0]));

        says("Promise 16", "-2 if there is none.");
        run("keyAt 0 -> -2", "keyAt -1 -> -2", "keyAt 63 -> -2");
        for (int i : new int[] {5, 6, 63, 64, MAX, -1, MIN}) {
            runAfter(SAMPLE, "keyAt " + i + " -> -2");
        }
        for (int i : new int[] {64, 65, 128, MAX, -1, -64, MIN}) {
            run("fillRange 0 63 1 -> 1", "keyAt " + i + " -> -2");
        }
        run("put 9 1 -> 1", "keyAt 0 -> 9", "remove 9 -> 1", "keyAt 0 -> -2");
    }

    private static void promise17() {
        says("Promise 17", "How many keys of the range are present.");
        run("count 0 63 -> 0", "count 0 0 -> 0", "fillRange 0 63 0 -> 1", "count 0 63 -> 64", "count 0 0 -> 1",
            "count 63 63 -> 1", "count 1 62 -> 62", "count 63 0 -> 0", "count 1 0 -> 0");
        runAfter(SAMPLE, "count 0 63 -> 5", "count 10 20 -> 2", "count 11 19 -> 0", "count 10 19 -> 1",
            "count 11 20 -> 1", "count 20 10 -> 0");

        says("Promise 17", "Keys: -1.");
        refusesEachWrongRange("count <range>", -1);
    }

    private static void promise18() {
        says("Promise 18", "The sum of the values of the present keys of the range");
        run("sum 0 63 -> 0", "fillRange 0 63 2 -> 1", "sum 0 63 -> 128", "sum 0 0 -> 2", "sum 63 63 -> 2",
            "sum 1 62 -> 124", "sum 63 0 -> 0", "sum 1 0 -> 0", "removeRange 0 63 -> 1", "sum 0 63 -> 0");
        runAfter(SAMPLE, "sum 0 62 -> 9", "sum 10 20 -> 4", "sum 11 19 -> 0", "sum 10 19 -> -3", "sum 11 20 -> 7",
            "sum 0 63 -> " + (MAX + 9), "sum 63 63 -> " + MAX, "remove 20 -> 1", "sum 0 62 -> 2");

        says("Promise 18", "keys: 0.");
        refusesEachWrongRange("sum <range>", 0);
        for (String range : wrongRanges()) {
            run("fillRange 0 63 1 -> 1", "sum " + range + " -> 0");
        }
    }

    private static void promise19() {
        says("Promise 19", "The greatest value of a present key of the range");
        runAfter(SAMPLE, "greatest 0 63 -> " + MAX, "greatest 0 62 -> 7", "greatest 0 19 -> 5", "greatest 1 20 -> 7",
            "greatest 1 19 -> -3", "greatest 31 31 -> 0", "greatest 21 62 -> 0", "remove 20 -> 1",
            "greatest 1 30 -> -3");
        run("put 0 " + MIN + " -> 1", "greatest 0 63 -> " + MIN, "put 1 " + (MIN + 1) + " -> 1",
            "greatest 0 63 -> " + (MIN + 1), "put 63 " + MAX + " -> 1", "greatest 0 63 -> " + MAX,
            "greatest 0 62 -> " + (MIN + 1));
        run("fillRange 0 63 -1 -> 1", "greatest 0 63 -> -1", "put 63 -2 -> 1", "greatest 63 63 -> -2");

        says("Promise 19", "there is none");
        run("greatest 0 63 -> " + MIN, "greatest 0 0 -> " + MIN, "greatest 63 63 -> " + MIN);
        runAfter(SAMPLE, "greatest 1 9 -> " + MIN, "greatest 32 62 -> " + MIN, "greatest 63 0 -> " + MIN,
            "greatest 1 0 -> " + MIN, "remove 20 -> 1", "greatest 20 20 -> " + MIN);
        run("fillRange 0 63 1 -> 1", "removeRange 0 63 -> 1", "greatest 0 63 -> " + MIN);

        says("Promise 19", "or keys: -2147483648.");
        refusesEachWrongRange("greatest <range>", MIN);
        for (String range : wrongRanges()) {
            run("fillRange 0 63 1 -> 1", "greatest " + range + " -> " + MIN);
        }
    }

    private static void promise20() {
        says("Promise 20", "How many keys are present with other values");
        run("fillRange 0 63 1 -> 1", "mark -> 1", "changedSince -> 0", "put 0 2 -> 1", "changedSince -> 1",
            "put 63 0 -> 1", "changedSince -> 2", "addRange 0 63 1 -> 1", "changedSince -> 63", "add 63 1 -> 1",
            "changedSince -> 64", "addRange 0 63 -1 -> 1", "put 0 1 -> 1", "put 63 1 -> 1", "changedSince -> 0");
        run("put 3 " + MIN + " -> 1", "mark -> 1", "put 3 " + MAX + " -> 1", "changedSince -> 1", "add 3 1 -> 1",
            "changedSince -> 0");

        says("Promise 20", "or present only in one of the two");
        run("mark -> 1", "changedSince -> 0", "put 0 0 -> 1", "changedSince -> 1", "fillRange 0 63 0 -> 1",
            "changedSince -> 64", "removeRange 0 63 -> 1", "changedSince -> 0");
        run("fillRange 0 63 0 -> 1", "mark -> 1", "remove 63 -> 1", "changedSince -> 1", "removeRange 0 63 -> 1",
            "changedSince -> 64", "fillRange 0 63 0 -> 1", "changedSince -> 0");
        run("put 1 0 -> 1", "mark -> 1", "remove 1 -> 1", "put 2 0 -> 1", "changedSince -> 2");
        // Not present in both is no change, whatever the key had in between.
        run("put 1 5 -> 1", "remove 1 -> 1", "mark -> 1", "put 1 6 -> 1", "remove 1 -> 1", "changedSince -> 0");

        says("Promise 20", "now and at the last mark");
        run("put 1 1 -> 1", "mark -> 1", "put 1 2 -> 1", "mark -> 2", "changedSince -> 0", "put 1 1 -> 1",
            "changedSince -> 1", "mark -> 3", "changedSince -> 0", "put 2 2 -> 1", "changedSince -> 1",
            "mark -> -2", "changedSince -> 1", "back -> 2", "changedSince -> 1", "back -> 1", "changedSince -> 1",
            "back -> 0", "changedSince -> -2");

        says("Promise 20", "there is none: -2.");
        run("changedSince -> -2");
        runAfter(SAMPLE, "changedSince -> -2", "mark -> 1", "changedSince -> 0", "back -> 0", "changedSince -> -2",
            "back -> -2", "changedSince -> -2");
    }

    public static void main(String[] args) {
        whatItIs();
        termsKeysAndValues();
        termsWrap();
        termsRange();
        termsMarks();
        termsRefusals();
        termsKindsOfCalls();
        promise1();
        promise2();
        promise3();
        promise4();
        promise5();
        promise6();
        promise7();
        promise8();
        promise9();
        promise10();
        promise11();
        promise12();
        promise13();
        promise14();
        promise15();
        promise16();
        promise17();
        promise18();
        promise19();
        promise20();
        System.out.println(wrong == 0 ? "all answers are as due" : wrong + " answers are not as due");
        if (wrong != 0) {
            System.exit(1);
        }
    }
}
