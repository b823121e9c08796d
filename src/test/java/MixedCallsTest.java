import java.util.HashSet;
import java.util.List;
import java.util.Set;

/**
 * All calls in any order, 512 on an object, made by a fixed rule and with arguments far out of bounds among
 * them: each answers, or throws, what the oracle does, and nothing else ever comes out.
 */
final class MixedCallsTest {
    private static final int OBJECTS = 300;
    private static final int MOST_CALLS = 512;
    private static final int[] FAR_OUT = {Integer.MIN_VALUE, Integer.MIN_VALUE + 1, -200, -17, -2, -1, 2, 7, 8, 10, 11,
        16, 17, 20, 21, 31, 32, 48, 49, 64, 200, 201, 1 << 16, Integer.MAX_VALUE};

    /** A call as the program and the oracle answer it. */
    private interface Call {
        Object make();
    }

    private static final Due DUE = new Due();
    /** Which answers, by the names of their calls, have been met. */
    private static final Set<String> MET = new HashSet<>();

    private final Numbers numbers;
    private final SpillingColours x = new SpillingColours();
    private final Oracle y = new Oracle();
    private final int values;
    /** Sources that seldom have other ops than ADD, SUB and LESS use the most values, so that allocation may fail. */
    private final boolean likesUses;

    private MixedCallsTest(int seed) {
        numbers = new Numbers(seed + 77_000_000L);
        values = 4 + numbers.below(7);
        likesUses = numbers.once(3);
    }

    public static void main(String[] args) {
        for (int seed = 0; seed < OBJECTS; seed++) {
            MixedCallsTest object = new MixedCallsTest(seed);
            for (int call = 1; call <= MOST_CALLS; call++) {
                object.callOnce("seed " + seed + ", call " + call + ": ");
            }
        }
        everyKindOfAnswerWasMet();
        DUE.finish();
    }

    private void callOnce(String name) {
        int kind = numbers.below(100);
        if (kind < 30) {
            put(name);
        } else if (kind < 40) {
            allocate(name);
        } else if (kind < 50) {
            spoil(name);
        } else if (kind < 60) {
            same(name, "accepts", x::accepts, () -> y.accepts() == 1);
        } else if (kind < 70) {
            int code = mostly(numbers.below(2));
            same(name, "run(" + code, () -> x.run(code), () -> y.run(code));
        } else {
            ask(name, kind);
        }
    }

    private void ask(String name, int kind) {
        int one = mostly(numbers.below(22));
        int other = mostly(numbers.below(kind < 78 ? 5 : 10));
        if (kind < 78) {
            same(name, "line(" + one + ", " + other, () -> x.line(one, other), () -> y.line(one, other));
        } else if (kind < 84) {
            same(name, "shown(" + one, () -> x.shown(one), () -> y.shown(one));
        } else if (kind < 90) {
            same(name, "live(" + one + ", " + other, () -> x.live(one, other), () -> y.live(one, other));
        } else if (kind < 92) {
            same(name, "lines", x::lines, y::lines);
        } else if (kind < 94) {
            same(name, "slots", x::slots, y::slots);
        } else if (kind < 96) {
            same(name, "joined", x::joined, y::joined);
        } else if (kind < 99 || !numbers.once(3)) {
            same(name, "ended", x::ended, y::ended);
        } else {
            same(name, "clear", x::clear, y::clear);
        }
    }

    private void put(String name) {
        int op = mostly(likesUses && !numbers.once(9) ? 2 + numbers.below(3) : numbers.below(8));
        int d = mostly(numbers.below(values));
        int a = mostly(numbers.below(op == 5 ? 17 : values));
        int b = mostly(numbers.below(op == 6 ? 17 : values));
        String written = "put(" + op + ", " + d + ", " + a + ", " + b;
        same(name, written, () -> x.put(op, d, a, b), () -> y.put(op, d, a, b));
    }

    private void allocate(String name) {
        int k = mostly(numbers.once(2) ? 3 : 3 + numbers.below(4));
        same(name, "allocate(" + k, () -> x.allocate(k), () -> y.allocate(k));
    }

    private void spoil(String name) {
        int i = mostly(numbers.below(20));
        int what = mostly(numbers.below(5));
        int register = mostly(numbers.below(5));
        String written = "spoil(" + i + ", " + what + ", " + register;
        same(name, written, () -> x.spoil(i, what, register), () -> y.spoil(i, what, register));
    }

    /** Seldom another number: calls that are all refused would come to nothing. */
    private int mostly(int number) {
        return numbers.once(40) ? numbers.oneOf(FAR_OUT) : number;
    }

    private static void same(String name, String written, Call got, Call due) {
        String want = answer(due);
        DUE.text(name + written, answer(got), want);
        boolean isKind = want.equals("true") || want.equals("false") || want.equals("-1") || want.endsWith("Exception");
        MET.add(written.split("\\(")[0] + " " + (isKind ? want : "a number"));
    }

    private static String answer(Call call) {
        try {
            return String.valueOf(call.make());
        } catch (RuntimeException e) {
            return e.getClass().getSimpleName();
        }
    }

    private static void everyKindOfAnswerWasMet() {
        List<String> due = List.of("accepts false", "accepts true", "allocate -1", "allocate IllegalArgumentException",
            "allocate a number", "clear a number", "ended false", "ended true", "joined -1", "joined a number",
            "line -1", "line IndexOutOfBoundsException", "line a number", "lines -1", "lines a number", "live false",
            "live true", "put IllegalArgumentException", "put IllegalStateException", "put a number",
            "run IllegalArgumentException", "run IllegalStateException", "run a number",
            "shown IndexOutOfBoundsException", "shown a number", "slots -1", "slots a number", "spoil false",
            "spoil true");
        for (String answer : due) {
            DUE.truth("a call was met: " + answer, MET.contains(answer), true);
        }
    }
}
