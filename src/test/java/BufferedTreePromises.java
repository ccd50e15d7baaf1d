import java.lang.reflect.Constructor;
import java.lang.reflect.Field;
import java.lang.reflect.Method;
import java.lang.reflect.Modifier;
import java.util.Arrays;
import java.util.TreeSet;

/** For each promise of the document: ordinary inputs, the edges it names, and wrong inputs. */
public final class BufferedTreePromises {
    private static final int MIN = Integer.MIN_VALUE;
    private static final int MAX = Integer.MAX_VALUE;
    private static final int[] NO_KEYS = {-1, 64, 65, 128, -64, MIN, MAX};
    private static int wrong = 0;

    private static void due(String what, int got, int want) {
        if (got != want) {
            wrong++;
            System.out.println(what + " answered " + got + ", due is " + want);
        }
    }

    private static void dueText(String what, String got, String want) {
        if (!got.equals(want)) {
            wrong++;
            System.out.println(what + " is " + got + ", due is " + want);
        }
    }

    /** The present keys with their values, as "key=value" with blanks between. */
    private static String state(BufferedTree x) {
        StringBuilder text = new StringBuilder();
        for (int k = 0; k < 64; k++) {
            if (x.has(k) == 1) {
                text.append(text.length() == 0 ? "" : " ").append(k).append('=').append(x.get(k));
            }
        }
        return text.toString();
    }

    /** 0=5 10=-3 20=7 31=0 63=MAX */
    private static BufferedTree sample() {
        BufferedTree x = new BufferedTree();
        x.put(0, 5);
        x.put(10, -3);
        x.put(20, 7);
        x.put(31, 0);
        x.put(63, MAX);
        return x;
    }

    private static final String SAMPLE = "0=5 10=-3 20=7 31=0 63=2147483647";

    private interface RangeCall {
        int on(BufferedTree x, int a, int b);
    }

    private static void refusesWrongRanges(String name, RangeCall call, int answer) {
        for (int bad : NO_KEYS) {
            int[][] ranges = {{bad, 5}, {5, bad}, {bad, bad}, {0, bad}, {63, bad}, {bad, 0}, {bad, 63}};
            for (int[] r : ranges) {
                BufferedTree x = sample();
                String what = name + "(" + r[0] + ", " + r[1] + ")";
                due(what, call.on(x, r[0], r[1]), answer);
                dueText("the state after " + what, state(x), SAMPLE);
            }
        }
    }

    private static void emptyRangeChangesNothing(String name, RangeCall call, int answer) {
        int[][] ranges = {{63, 0}, {21, 20}, {20, 19}, {1, 0}, {63, 62}};
        for (int[] r : ranges) {
            BufferedTree x = sample();
            String what = name + "(" + r[0] + ", " + r[1] + ")";
            due(what, call.on(x, r[0], r[1]), answer);
            dueText("the state after " + what, state(x), SAMPLE);
        }
    }

    private static void face() {
        TreeSet<String> seen = new TreeSet<>();
        for (Method m : BufferedTree.class.getDeclaredMethods()) {
            if (!Modifier.isPrivate(m.getModifiers())) {
                seen.add(m.getReturnType() + " " + m.getName() + m.getParameterCount());
                for (Class<?> type : m.getParameterTypes()) {
                    dueText("a parameter of " + m.getName(), type.getName(), "int");
                }
                due("static " + m.getName(), Modifier.isStatic(m.getModifiers()) ? 1 : 0, 0);
            }
        }
        TreeSet<String> want = new TreeSet<>(Arrays.asList(
            "int put2", "int remove1", "int add2", "int removeRange2", "int addRange3",
            "int raiseRange3", "int fillRange3", "int mark0", "int back0", "int has1", "int get1",
            "int size0", "int next1", "int previous1", "int keyAt1", "int count2", "int sum2",
            "int greatest2", "int changedSince0"));
        dueText("the face", seen.toString(), want.toString());
        for (Field f : BufferedTree.class.getDeclaredFields()) {
            due("private " + f.getName(), Modifier.isPrivate(f.getModifiers()) ? 1 : 0, 1);
        }
        Constructor<?>[] constructors = BufferedTree.class.getDeclaredConstructors();
        due("constructors", constructors.length, 1);
        due("constructor parameters", constructors[0].getParameterCount(), 0);
        due("public constructor", Modifier.isPublic(constructors[0].getModifiers()) ? 1 : 0, 1);
        int ofClass = BufferedTree.class.getModifiers();
        due("public final class", Modifier.isPublic(ofClass) && Modifier.isFinal(ofClass) ? 1 : 0, 1);
    }

    private static void promise1NewObject() {
        BufferedTree x = new BufferedTree();
        due("new: size", x.size(), 0);
        for (int k = 0; k < 64; k++) {
            due("new: has " + k, x.has(k), 0);
            due("new: get " + k, x.get(k), 0);
        }
        due("new: changedSince", x.changedSince(), -2);
        due("new: back", x.back(), -2);
        BufferedTree y = sample();
        y.mark();
        due("an object beside another: size", x.size(), 0);
        due("an object beside another: back", x.back(), -2);
        due("the first mark of a new object", x.mark(), 1);
    }

    private static void promise2Put() {
        BufferedTree x = new BufferedTree();
        due("put 0", x.put(0, 4), 1);
        due("put 63", x.put(63, MIN), 1);
        due("put 7", x.put(7, 0), 1);
        dueText("after put", state(x), "0=4 7=0 63=-2147483648");
        due("put again", x.put(0, -9), 1);
        due("put the same again", x.put(7, 0), 1);
        x.remove(63);
        due("put after remove", x.put(63, 2), 1);
        dueText("after put again", state(x), "0=-9 7=0 63=2");
        for (int bad : NO_KEYS) {
            BufferedTree y = sample();
            due("put " + bad, y.put(bad, 1), -1);
            dueText("after put " + bad, state(y), SAMPLE);
        }
    }

    private static void promise3Remove() {
        BufferedTree x = sample();
        due("remove 0", x.remove(0), 1);
        due("remove 63", x.remove(63), 1);
        due("remove what is not present", x.remove(11), 1);
        due("remove twice", x.remove(0), 1);
        dueText("after remove", state(x), "10=-3 20=7 31=0");
        for (int bad : NO_KEYS) {
            BufferedTree y = sample();
            due("remove " + bad, y.remove(bad), -1);
            dueText("after remove " + bad, state(y), SAMPLE);
        }
    }

    private static void promise4Add() {
        BufferedTree x = sample();
        due("add to a present key", x.add(20, 5), 1);
        due("add to a key not present", x.add(21, 5), 1);
        due("add 0 to a key not present", x.add(22, 0), 1);
        due("add below", x.add(0, -6), 1);
        due("add wraps", x.add(63, 1), 1);
        dueText("after add", state(x), "0=-1 10=-3 20=12 21=5 22=0 31=0 63=-2147483648");
        x.add(63, -1);
        x.remove(20);
        due("add after remove", x.add(20, 3), 1);
        x.removeRange(21, 22);
        due("add after removeRange", x.add(21, 2), 1);
        dueText("after add again", state(x), "0=-1 10=-3 20=3 21=2 31=0 63=2147483647");
        for (int bad : NO_KEYS) {
            BufferedTree y = sample();
            due("add " + bad, y.add(bad, 1), -1);
            dueText("after add " + bad, state(y), SAMPLE);
        }
    }

    private static void promise5RemoveRange() {
        BufferedTree x = sample();
        due("removeRange", x.removeRange(10, 20), 1);
        dueText("after removeRange", state(x), "0=5 31=0 63=2147483647");
        due("removeRange of one", x.removeRange(31, 31), 1);
        due("removeRange without present keys", x.removeRange(1, 62), 1);
        dueText("after removeRange of one", state(x), "0=5 63=2147483647");
        due("removeRange of all", x.removeRange(0, 63), 1);
        dueText("after removeRange of all", state(x), "");
        refusesWrongRanges("removeRange", (y, a, b) -> y.removeRange(a, b), -1);
        emptyRangeChangesNothing("removeRange", (y, a, b) -> y.removeRange(a, b), 1);
    }

    private static void promise6AddRange() {
        BufferedTree x = sample();
        due("addRange", x.addRange(10, 31, 4), 1);
        dueText("after addRange", state(x), "0=5 10=1 20=11 31=4 63=2147483647");
        due("addRange of all", x.addRange(0, 63, 1), 1);
        dueText("after addRange of all", state(x), "0=6 10=2 20=12 31=5 63=-2147483648");
        due("addRange of one", x.addRange(20, 20, MIN), 1);
        due("addRange of one not present", x.addRange(21, 21, 1), 1);
        dueText("after addRange of one", state(x), "0=6 10=2 20=-2147483636 31=5 63=-2147483648");
        x.remove(10);
        x.addRange(0, 63, 1);
        x.fillRange(10, 10, 8);
        due("a key filled after addRange", x.get(10), 8);
        refusesWrongRanges("addRange", (y, a, b) -> y.addRange(a, b, 1), -1);
        emptyRangeChangesNothing("addRange", (y, a, b) -> y.addRange(a, b, 1), 1);
    }

    private static void promise7RaiseRange() {
        BufferedTree x = sample();
        due("raiseRange", x.raiseRange(0, 20, 6), 1);
        dueText("after raiseRange", state(x), "0=6 10=6 20=7 31=0 63=2147483647");
        due("raiseRange to the same", x.raiseRange(0, 63, 0), 1);
        dueText("after raiseRange to the same", state(x), "0=6 10=6 20=7 31=0 63=2147483647");
        due("raiseRange of one", x.raiseRange(31, 31, 1), 1);
        x.put(40, MIN);
        x.put(41, MIN);
        due("raiseRange to the least", x.raiseRange(0, 63, MIN), 1);
        due("raiseRange from the least", x.raiseRange(41, 62, MIN + 1), 1);
        dueText("after raiseRange from the least", state(x),
            "0=6 10=6 20=7 31=1 40=-2147483648 41=-2147483647 63=2147483647");
        due("raiseRange to the most", x.raiseRange(40, 41, MAX), 1);
        due("raised from the least to the most", x.get(40), MAX);
        refusesWrongRanges("raiseRange", (y, a, b) -> y.raiseRange(a, b, MAX), -1);
        emptyRangeChangesNothing("raiseRange", (y, a, b) -> y.raiseRange(a, b, MAX), 1);
    }

    private static void promise8FillRange() {
        BufferedTree x = sample();
        due("fillRange", x.fillRange(8, 11, -2), 1);
        dueText("after fillRange", state(x), "0=5 8=-2 9=-2 10=-3 11=-2 20=7 31=0 63=2147483647");
        due("fillRange of one", x.fillRange(62, 62, 1), 1);
        due("fillRange of one present", x.fillRange(20, 20, 1), 1);
        dueText("after fillRange of one", state(x),
            "0=5 8=-2 9=-2 10=-3 11=-2 20=7 31=0 62=1 63=2147483647");
        x.remove(20);
        due("fillRange after remove", x.fillRange(20, 20, 9), 1);
        due("filled after remove", x.get(20), 9);
        due("fillRange of all", x.fillRange(0, 63, 6), 1);
        for (int k = 0; k < 64; k++) {
            due("filled " + k, x.has(k), 1);
        }
        due("filled: first", x.get(0), 5);
        due("filled: second", x.get(1), 6);
        due("filled: a present 0", x.get(31), 0);
        refusesWrongRanges("fillRange", (y, a, b) -> y.fillRange(a, b, 1), -1);
        emptyRangeChangesNothing("fillRange", (y, a, b) -> y.fillRange(a, b, 1), 1);
    }

    private static void promise9Mark() {
        BufferedTree x = sample();
        due("mark 1", x.mark(), 1);
        x.put(1, 1);
        due("mark 2", x.mark(), 2);
        x.put(2, 2);
        due("mark 3", x.mark(), 3);
        x.put(3, 3);
        due("mark 4", x.mark(), -2);
        due("mark 5", x.mark(), -2);
        dueText("after a refused mark", state(x), "0=5 1=1 2=2 3=3 10=-3 20=7 31=0 63=2147483647");
        due("back after a refused mark", x.back(), 2);
        dueText("after back", state(x), "0=5 1=1 2=2 10=-3 20=7 31=0 63=2147483647");
        due("mark again", x.mark(), 3);
        due("mark again, refused", x.mark(), -2);
    }

    private static void promise10Back() {
        BufferedTree x = sample();
        due("back without a mark", x.back(), -2);
        dueText("after back without a mark", state(x), SAMPLE);
        x.mark();
        x.removeRange(0, 63);
        x.mark();
        x.fillRange(0, 63, 3);
        x.mark();
        x.addRange(0, 63, 1);
        x.remove(0);
        due("back to 3", x.back(), 2);
        due("back to 3: sum", x.sum(0, 63), 192);
        due("back to 2", x.back(), 1);
        due("back to 2: size", x.size(), 0);
        due("back to 1", x.back(), 0);
        dueText("back to 1: state", state(x), SAMPLE);
        due("back with none left", x.back(), -2);
        dueText("back with none left: state", state(x), SAMPLE);
        x.put(1, 1);
        due("mark in the place of a gone one", x.mark(), 1);
        x.remove(1);
        x.raiseRange(0, 63, 100);
        due("back to the new mark", x.back(), 0);
        dueText("back to the new mark: state", state(x), "0=5 1=1 10=-3 20=7 31=0 63=2147483647");
    }

    private static void promise11Has() {
        BufferedTree x = sample();
        due("has 0", x.has(0), 1);
        due("has 63", x.has(63), 1);
        due("has with the value 0", x.has(31), 1);
        due("has not", x.has(30), 0);
        x.remove(0);
        due("has after remove", x.has(0), 0);
        for (int bad : NO_KEYS) {
            due("has " + bad, x.has(bad), -1);
        }
    }

    private static void promise12Get() {
        BufferedTree x = sample();
        due("get 0", x.get(0), 5);
        due("get 63", x.get(63), MAX);
        due("get a value below 0", x.get(10), -3);
        due("get what is not present", x.get(1), 0);
        x.remove(0);
        x.removeRange(20, 20);
        due("get after remove", x.get(0), 0);
        due("get after removeRange", x.get(20), 0);
        for (int bad : NO_KEYS) {
            due("get " + bad, x.get(bad), 0);
        }
    }

    private static void promise13Size() {
        BufferedTree x = sample();
        due("size", x.size(), 5);
        x.put(0, 1);
        x.add(10, 1);
        due("size after changes of values", x.size(), 5);
        x.add(1, 0);
        due("size after add", x.size(), 6);
        x.remove(2);
        x.remove(0);
        due("size after remove", x.size(), 5);
        x.fillRange(0, 63, 0);
        due("size of all", x.size(), 64);
        x.removeRange(1, 62);
        due("size after removeRange", x.size(), 2);
    }

    private static void promise14Next() {
        BufferedTree x = sample();
        int[][] cases = {{MIN, 0}, {-1, 0}, {0, 0}, {1, 10}, {10, 10}, {11, 20}, {32, 63}, {63, 63},
            {64, -2}, {MAX, -2}};
        for (int[] c : cases) {
            due("next " + c[0], x.next(c[0]), c[1]);
        }
        x.remove(63);
        due("next past the last", x.next(32), -2);
        due("next of the last", x.next(31), 31);
        x.removeRange(0, 63);
        due("next with none", x.next(MIN), -2);
    }

    private static void promise15Previous() {
        BufferedTree x = sample();
        int[][] cases = {{MAX, 63}, {64, 63}, {63, 63}, {62, 31}, {31, 31}, {30, 20}, {9, 0}, {0, 0},
            {-1, -2}, {MIN, -2}};
        for (int[] c : cases) {
            due("previous " + c[0], x.previous(c[0]), c[1]);
        }
        x.remove(0);
        due("previous before the first", x.previous(9), -2);
        due("previous of the first", x.previous(10), 10);
        x.removeRange(0, 63);
        due("previous with none", x.previous(MAX), -2);
    }

    private static void promise16KeyAt() {
        BufferedTree x = sample();
        int[] keys = {0, 10, 20, 31, 63};
        for (int i = 0; i < keys.length; i++) {
            due("keyAt " + i, x.keyAt(i), keys[i]);
        }
        int[] none = {5, 6, 63, 64, -1, MIN, MAX};
        for (int i : none) {
            due("keyAt " + i, x.keyAt(i), -2);
        }
        x.fillRange(0, 63, 1);
        for (int i = 0; i < 64; i++) {
            due("keyAt of all " + i, x.keyAt(i), i);
        }
        due("keyAt of all 64", x.keyAt(64), -2);
        due("keyAt of none", new BufferedTree().keyAt(0), -2);
    }

    private static void promise17Count() {
        BufferedTree x = sample();
        due("count of all", x.count(0, 63), 5);
        due("count between", x.count(10, 31), 3);
        due("count inside", x.count(11, 30), 1);
        due("count of one", x.count(63, 63), 1);
        due("count of one not present", x.count(62, 62), 0);
        refusesWrongRanges("count", (y, a, b) -> y.count(a, b), -1);
        emptyRangeChangesNothing("count", (y, a, b) -> y.count(a, b), 0);
    }

    private static void promise18Sum() {
        BufferedTree x = sample();
        due("sum", x.sum(0, 62), 9);
        due("sum between", x.sum(10, 20), 4);
        due("sum inside", x.sum(11, 62), 7);
        due("sum of one", x.sum(63, 63), MAX);
        due("sum of none", x.sum(1, 9), 0);
        due("sum wraps", x.sum(0, 63), MAX + 9);
        x.remove(20);
        due("sum after remove", x.sum(0, 62), 2);
        refusesWrongRanges("sum", (y, a, b) -> y.sum(a, b), 0);
        emptyRangeChangesNothing("sum", (y, a, b) -> y.sum(a, b), 0);
    }

    private static void promise19Greatest() {
        BufferedTree x = sample();
        due("greatest", x.greatest(0, 62), 7);
        due("greatest of all", x.greatest(0, 63), MAX);
        due("greatest at the start", x.greatest(0, 19), 5);
        due("greatest at the end", x.greatest(1, 20), 7);
        due("greatest below 0", x.greatest(1, 19), -3);
        due("greatest of none", x.greatest(1, 9), MIN);
        x.put(5, MIN);
        due("greatest of the least", x.greatest(1, 9), MIN);
        x.remove(20);
        due("greatest after remove", x.greatest(11, 62), 0);
        refusesWrongRanges("greatest", (y, a, b) -> y.greatest(a, b), MIN);
        emptyRangeChangesNothing("greatest", (y, a, b) -> y.greatest(a, b), MIN);
    }

    private static void promise20ChangedSince() {
        BufferedTree x = sample();
        due("changedSince without a mark", x.changedSince(), -2);
        x.mark();
        due("changedSince at once", x.changedSince(), 0);
        x.put(0, 6);
        due("changedSince: another value", x.changedSince(), 1);
        x.put(1, 0);
        due("changedSince: only now", x.changedSince(), 2);
        x.remove(31);
        due("changedSince: only then, with the value 0", x.changedSince(), 3);
        x.put(0, 5);
        x.remove(1);
        x.put(31, 0);
        due("changedSince: all as before", x.changedSince(), 0);
        x.put(2, 8);
        x.remove(2);
        due("changedSince: come and gone", x.changedSince(), 0);
        x.fillRange(0, 63, 0);
        due("changedSince: filled", x.changedSince(), 59);
        x.mark();
        due("changedSince the second mark", x.changedSince(), 0);
        x.addRange(0, 63, 1);
        due("changedSince: all", x.changedSince(), 64);
        x.back();
        due("changedSince the first mark again", x.changedSince(), 59);
        x.back();
        due("changedSince with none left", x.changedSince(), -2);
    }

    private static void questionsChangeNothing() {
        BufferedTree x = sample();
        x.mark();
        x.put(1, 1);
        String before = state(x);
        x.size();
        x.next(0);
        x.previous(63);
        x.keyAt(1);
        x.count(0, 63);
        x.sum(0, 63);
        x.greatest(0, 63);
        x.changedSince();
        dueText("after questions", state(x), before);
        due("back after questions", x.back(), 0);
        dueText("after back", state(x), SAMPLE);
    }

    public static void main(String[] args) {
        face();
        promise1NewObject();
        promise2Put();
        promise3Remove();
        promise4Add();
        promise5RemoveRange();
        promise6AddRange();
        promise7RaiseRange();
        promise8FillRange();
        promise9Mark();
        promise10Back();
        promise11Has();
        promise12Get();
        promise13Size();
        promise14Next();
        promise15Previous();
        promise16KeyAt();
        promise17Count();
        promise18Sum();
        promise19Greatest();
        promise20ChangedSince();
        questionsChangeNothing();
        System.out.println(wrong == 0 ? "all answers are as due" : wrong + " answers are not as due");
        if (wrong != 0) {
            System.exit(1);
        }
    }
}
