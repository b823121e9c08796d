/** Promises 1 to 4: a new object, put, clear, live. */
final class SourceTest {
    private static final Due DUE = new Due();
    private static final int NONE = SpillingColours.NONE;

    public static void main(String[] args) {
        promise1NewObject();
        promise2PutTakesLines();
        promise2PutRefusesWrongNumbers();
        promise2PutTakesNumbersWithoutMeaningAsZero();
        promise2PutStopsAtSixteen();
        promise2PutEndsTheResult();
        promise3Clear();
        promise4LiveInStraightCode();
        promise4LiveRoundLoops();
        promise4LiveBesideJumps();
        promise4LiveOfNothing();
        DUE.finish();
    }

    private static void promise1NewObject() {
        SpillingColours x = new SpillingColours();
        DUE.number("new lines()", x.lines(), NONE);
        DUE.number("new slots()", x.slots(), NONE);
        DUE.number("new joined()", x.joined(), NONE);
        DUE.truth("new accepts()", x.accepts(), false);
        DUE.truth("new ended()", x.ended(), false);
        DUE.truth("new live(0, 0)", x.live(0, 0), false);
        DUE.truth("new spoil(0, 1, 0)", x.spoil(0, 1, 0), false);
        DUE.thrown("new line(0, 0)", IndexOutOfBoundsException.class, () -> x.line(0, 0));
        DUE.thrown("new shown(0)", IndexOutOfBoundsException.class, () -> x.shown(0));
        DUE.thrown("new run(1)", IllegalStateException.class, () -> x.run(1));
        DUE.number("new run(0)", x.run(0), 0);
        DUE.number("new clear()", x.clear(), 0);
    }

    private static void promise2PutTakesLines() {
        SpillingColours x = new SpillingColours();
        for (int op = 0; op <= 7; op++) {
            DUE.number("put(" + op + ", 9, 9, 9)", x.put(op, 9, 9, 9), 2 * op + 1);
            DUE.number("put(" + op + ", 0, 0, 0)", x.put(op, 0, 0, 0), 2 * op + 2);
        }
        SpillingColours y = new SpillingColours();
        DUE.number("put of the least number", y.put(0, 1, Integer.MIN_VALUE, 0), 1);
        DUE.number("put of the greatest number", y.put(0, 1, Integer.MAX_VALUE, 0), 2);
        DUE.number("put of a jump to 16", y.put(5, 0, 16, 0), 3);
        DUE.number("put of a branch to 16", y.put(6, 0, 0, 16), 4);
    }

    private static void promise2PutRefusesWrongNumbers() {
        SpillingColours x = new SpillingColours();
        int[][] wrong = {
            {-1, 0, 0, 0}, {8, 0, 0, 0}, {9, 0, 0, 0}, {Integer.MIN_VALUE, 0, 0, 0}, {Integer.MAX_VALUE, 0, 0, 0},
            {0, -1, 0, 0}, {0, 10, 0, 0}, {1, -1, 0, 0}, {1, 10, 0, 0}, {1, 0, -1, 0}, {1, 0, 10, 0},
            {2, -1, 0, 0}, {2, 10, 0, 0}, {2, 0, -1, 0}, {2, 0, 10, 0}, {2, 0, 0, -1}, {2, 0, 0, 10},
            {3, -1, 0, 0}, {3, 10, 0, 0}, {3, 0, -1, 0}, {3, 0, 10, 0}, {3, 0, 0, -1}, {3, 0, 0, 10},
            {4, -1, 0, 0}, {4, 10, 0, 0}, {4, 0, -1, 0}, {4, 0, 10, 0}, {4, 0, 0, -1}, {4, 0, 0, 10},
            {5, 0, -1, 0}, {5, 0, 17, 0}, {6, 0, -1, 0}, {6, 0, 10, 0}, {6, 0, 0, -1}, {6, 0, 0, 17},
            {7, 0, -1, 0}, {7, 0, 10, 0}, {2, 0, 0, Integer.MIN_VALUE}, {5, 0, Integer.MAX_VALUE, 0},
        };
        for (int[] n : wrong) {
            String call = "put(" + n[0] + ", " + n[1] + ", " + n[2] + ", " + n[3] + ")";
            DUE.thrown(call, IllegalArgumentException.class, () -> x.put(n[0], n[1], n[2], n[3]));
        }
        DUE.number("lines put by wrong calls", x.clear(), 0);
    }

    private static void promise2PutTakesNumbersWithoutMeaningAsZero() {
        SpillingColours x = Sources.of(0, 1, 5, 77, 1, 1, 1, -77, 5, 99, 3, -99, 6, 99, 1, 4, 7, -99, 1, 99);
        x.allocate(3);
        DUE.text("numbers without meaning", Sources.result(x), "0 0 5 0 0|1 0 0 0 1|5 0 3 0 2|6 0 0 4 3|7 0 0 0 4|");
    }

    private static void promise2PutStopsAtSixteen() {
        SpillingColours x = new SpillingColours();
        for (int i = 1; i <= 16; i++) {
            DUE.number("put number " + i, x.put(7, 0, i % 10, 0), i);
        }
        x.allocate(3);
        DUE.thrown("the 17th put", IllegalStateException.class, () -> x.put(7, 0, 0, 0));
        DUE.thrown("the 17th put, wrong besides", IllegalArgumentException.class, () -> x.put(8, 0, 0, 0));
        DUE.number("lines() behind refused puts", x.lines(), 16);
        DUE.number("clear() behind refused puts", x.clear(), 16);
    }

    private static void promise2PutEndsTheResult() {
        SpillingColours x = Sources.of(0, 0, 1, 0);
        x.allocate(3);
        DUE.thrown("a wrong put", IllegalArgumentException.class, () -> x.put(0, 10, 1, 0));
        DUE.number("lines() behind a wrong put", x.lines(), 1);
        x.put(0, 0, 1, 0);
        DUE.number("lines() behind a put", x.lines(), NONE);
        DUE.number("slots() behind a put", x.slots(), NONE);
        DUE.number("joined() behind a put", x.joined(), NONE);
        DUE.truth("accepts() behind a put", x.accepts(), false);
        DUE.thrown("run(1) behind a put", IllegalStateException.class, () -> x.run(1));
    }

    private static void promise3Clear() {
        SpillingColours x = Sources.of(0, 0, 1, 0, 7, 0, 0, 0, 7, 0, 0, 0);
        x.allocate(3);
        DUE.number("clear()", x.clear(), 3);
        DUE.number("lines() behind clear", x.lines(), NONE);
        DUE.truth("spoil behind clear", x.spoil(0, 1, 0), false);
        DUE.truth("live behind clear", x.live(0, 0), false);
        DUE.number("run(0) behind clear", x.run(0), 0);
        DUE.number("clear() again", x.clear(), 0);
        DUE.number("put behind clear", x.put(7, 0, 4, 0), 1);
        x.allocate(3);
        DUE.text("the result behind clear", Sources.result(x), "7 0 0 0 0|");
    }

    private static void promise4LiveInStraightCode() {
        SpillingColours x = Sources.of(0, 0, 1, 0, 2, 0, 0, 1, 3, 2, 1, 0, 0, 0, 5, 0, 4, 3, 2, 0, 7, 0, 3, 0);
        same(x, 0, "0 1 ");
        same(x, 1, "0 1 ");
        same(x, 2, "2 ");
        same(x, 3, "0 2 ");
        same(x, 4, "3 ");
        same(x, 5, "");
    }

    private static void promise4LiveRoundLoops() {
        SpillingColours x = Sources.of(6, 0, 1, 0);
        same(x, 0, "1 ");
        SpillingColours y = Sources.of(2, 0, 0, 1, 6, 0, 2, 0, 0, 1, 3, 0, 5, 0, 0, 0);
        same(y, 0, "0 1 2 ");
        same(y, 1, "0 1 2 ");
        same(y, 2, "0 1 2 ");
        same(y, 3, "0 1 2 ");
        SpillingColours z = Sources.of(0, 0, 1, 0, 7, 0, 0, 0, 5, 0, 0, 0);
        same(z, 0, "0 ");
        same(z, 1, "");
        same(z, 2, "");
    }

    private static void promise4LiveBesideJumps() {
        SpillingColours x = Sources.of(5, 0, 2, 0, 7, 0, 1, 0, 6, 0, 2, 4, 7, 0, 3, 0, 7, 0, 4, 0);
        same(x, 0, "2 3 4 ");
        same(x, 1, "2 3 4 ");
        same(x, 2, "3 4 ");
        SpillingColours y = Sources.of(5, 0, 3, 0, 7, 0, 1, 0, 7, 0, 2, 0);
        same(y, 0, "");
        SpillingColours z = Sources.of(6, 0, 0, 16, 7, 0, 1, 0, 5, 0, 16, 0, 7, 0, 2, 0);
        same(z, 0, "1 ");
        same(z, 1, "");
        same(z, 2, "");
    }

    private static void promise4LiveOfNothing() {
        SpillingColours x = Sources.of(7, 0, 0, 0, 7, 0, 9, 0);
        int[] wrong = {-1, 2, 16, Integer.MIN_VALUE, Integer.MAX_VALUE};
        for (int line : wrong) {
            DUE.truth("live(" + line + ", 9)", x.live(line, 9), false);
        }
        int[] wrongValues = {-1, 10, 64, 73, Integer.MIN_VALUE, Integer.MAX_VALUE};
        for (int value : wrongValues) {
            DUE.truth("live(0, " + value + ")", x.live(0, value), false);
        }
    }

    private static void same(SpillingColours x, int line, String values) {
        StringBuilder live = new StringBuilder();
        for (int value = 0; value <= 9; value++) {
            if (x.live(line, value)) {
                live.append(value).append(' ');
            }
        }
        DUE.text("live behind line " + line, live.toString(), values);
    }
}
