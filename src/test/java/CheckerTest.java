/** Promises 10 and 11 (spoil, accepts) on ordinary results; CheckerEdgesTest has their edges. */
final class CheckerTest {
    private static final Due DUE = new Due();

    public static void main(String[] args) {
        promise10ChangesOneRegister();
        promise11AcceptsWhatAllocateMade();
        promise11SeesAWrongRegister();
        promise11KnowsCopies();
        promise11SeesAnOldValue();
        DUE.finish();
    }

    private static void promise10ChangesOneRegister() {
        SpillingColours x = Sources.read("SET 0 4, SET 1 6, ADD 2 0 1, OUT 2");
        x.allocate(3);
        DUE.text("the result", Sources.written(x), "SET 1 4, SET 0 6, ADD 0 1 0, OUT 0");
        DUE.truth("spoil of d", x.spoil(2, 1, 2), true);
        DUE.truth("spoil of a", x.spoil(2, 2, 0), true);
        DUE.truth("spoil of b", x.spoil(2, 3, 1), true);
        DUE.text("the result spoilt", Sources.written(x), "SET 1 4, SET 0 6, ADD 2 0 1, OUT 0");
        DUE.number("run(1)", x.run(1), 1);
        DUE.number("shown(0)", x.shown(0), 6);
        x.allocate(3);
        DUE.text("a new result", Sources.written(x), "SET 1 4, SET 0 6, ADD 0 1 0, OUT 0");
    }

    private static void promise11AcceptsWhatAllocateMade() {
        SpillingColours x = Sources.fourAtOnce();
        for (int k = 3; k <= 6; k++) {
            x.allocate(k);
            DUE.truth("accepts() with " + k, x.accepts(), true);
        }
    }

    private static void promise11SeesAWrongRegister() {
        SpillingColours x = Sources.read("SET 0 1, SET 1 2, OUT 0, ADD 2 1 1");
        x.allocate(3);
        int zero = x.line(0, 1);
        int one = x.line(1, 1);
        x.spoil(2, 2, one);
        DUE.truth("accepts() with another value put out", x.accepts(), false);
        x.spoil(2, 2, zero);
        DUE.truth("accepts() mended", x.accepts(), true);
        x.spoil(1, 1, zero);
        DUE.truth("accepts() with a value lost", x.accepts(), false);
        x.spoil(1, 1, one);
        x.spoil(3, 1, zero);
        DUE.truth("accepts() with a dead value elsewhere", x.accepts(), true);
    }

    private static void promise11KnowsCopies() {
        SpillingColours x = Sources.read("SET 0 5, MOVE 1 0, OUT 0, OUT 1, SET 0 6, OUT 1");
        x.allocate(3);
        for (int i = 0; i <= 5; i++) {
            x.spoil(i, 1, 0);
            x.spoil(i, 2, 0);
        }
        x.spoil(4, 1, 2);
        DUE.truth("accepts() with both in one register", x.accepts(), true);
        x.spoil(1, 1, 1);
        DUE.truth("accepts() with the copy elsewhere", x.accepts(), false);
        x.spoil(3, 2, 1);
        x.spoil(5, 2, 1);
        DUE.truth("accepts() with its uses there too", x.accepts(), true);
        x.spoil(2, 2, 1);
        DUE.truth("accepts() with the copied value taken from the copy", x.accepts(), true);
        x.spoil(4, 1, 1);
        DUE.truth("accepts() with the copy overwritten", x.accepts(), false);
    }

    private static void promise11SeesAnOldValue() {
        SpillingColours x = Sources.read("OUT 3, OUT 4, SET 3 1, OUT 3, OUT 5");
        x.allocate(3);
        int three = x.line(2, 1);
        int other = (three + 1) % 3;
        x.spoil(4, 2, other);
        x.spoil(0, 2, other);
        DUE.truth("accepts() with a value taken from anywhere before it is set", x.accepts(), true);
        x.spoil(3, 2, other);
        DUE.truth("accepts() with an old value taken", x.accepts(), false);
        x.spoil(3, 2, three);
        DUE.truth("accepts() mended", x.accepts(), true);
        x.spoil(4, 2, three);
        DUE.truth("accepts() with another value where 3 was set", x.accepts(), false);
    }
}
