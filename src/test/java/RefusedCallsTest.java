/** "A call that throws or answers NONE changes nothing, unless it is said otherwise", and the 512 calls. */
final class RefusedCallsTest {
    private interface Made {
        SpillingColours make();
    }

    private interface Asked {
        void ask(SpillingColours x);
    }

    private static final Due DUE = new Due();
    private static final int NONE = SpillingColours.NONE;
    private static final Class<IllegalArgumentException> ARGUMENT = IllegalArgumentException.class;
    private static final Class<IllegalStateException> STATE = IllegalStateException.class;
    private static final Class<IndexOutOfBoundsException> BOUNDS = IndexOutOfBoundsException.class;

    public static void main(String[] args) {
        refusedCallsLeaveANewObjectAlone();
        refusedCallsLeaveASourceAlone();
        refusedCallsLeaveAResultAlone();
        refusedCallsLeaveAFullSourceAlone();
        failingAllocationLeavesTheSourceAlone();
        wrongAllocationLeavesTheResultAlone();
        questionsChangeNothing();
        holdsFor512Calls();
        DUE.finish();
    }

    private static void refusedCallsLeaveANewObjectAlone() {
        Made made = SpillingColours::new;
        refused(made, 0, 0);
        unchanged("run(1)", made, 0, STATE, x -> x.run(1));
    }

    private static void refusedCallsLeaveASourceAlone() {
        Made made = () -> {
            SpillingColours x = Sources.read("SET 0 7, OUT 0, MOVE 1 0, OUT 1, JUMP 0");
            x.run(0);
            return x;
        };
        refused(made, 0, 20);
        unchanged("run(1)", made, 20, STATE, x -> x.run(1));
    }

    private static void refusedCallsLeaveAResultAlone() {
        Made made = () -> {
            SpillingColours x = Sources.fourAtOnce();
            x.allocate(3);
            x.spoil(1, 1, 2);
            x.run(1);
            return x;
        };
        refused(made, 12, 4);
    }

    private static void refusedCallsLeaveAFullSourceAlone() {
        Made made = () -> {
            SpillingColours x = Sources.full();
            x.allocate(3);
            x.run(0);
            return x;
        };
        refused(made, 16, 1);
        unchanged("the 17th put", made, 1, STATE, x -> x.put(5, 0, 0, 0));
    }

    /** Calls that are refused in every state. */
    private static void refused(Made made, int lines, int shownCount) {
        unchanged("put(8, 0, 0, 0)", made, shownCount, ARGUMENT, x -> x.put(8, 0, 0, 0));
        unchanged("put(0, 10, 0, 0)", made, shownCount, ARGUMENT, x -> x.put(0, 10, 0, 0));
        unchanged("put(1, 0, -1, 0)", made, shownCount, ARGUMENT, x -> x.put(1, 0, -1, 0));
        unchanged("put(2, 0, 0, 10)", made, shownCount, ARGUMENT, x -> x.put(2, 0, 0, 10));
        unchanged("put(5, 0, 17, 0)", made, shownCount, ARGUMENT, x -> x.put(5, 0, 17, 0));
        unchanged("put(6, 0, 0, -1)", made, shownCount, ARGUMENT, x -> x.put(6, 0, 0, -1));
        unchanged("allocate(2)", made, shownCount, ARGUMENT, x -> x.allocate(2));
        unchanged("allocate(7)", made, shownCount, ARGUMENT, x -> x.allocate(7));
        unchanged("line(-1, 0)", made, shownCount, BOUNDS, x -> x.line(-1, 0));
        unchanged("line(0, 5)", made, shownCount, BOUNDS, x -> x.line(0, 5));
        unchanged("line(" + lines + ", 0)", made, shownCount, BOUNDS, x -> x.line(lines, 0));
        unchanged("run(-1)", made, shownCount, ARGUMENT, x -> x.run(-1));
        unchanged("run(2)", made, shownCount, ARGUMENT, x -> x.run(2));
        unchanged("shown(-1)", made, shownCount, BOUNDS, x -> x.shown(-1));
        unchanged("shown(" + shownCount + ")", made, shownCount, BOUNDS, x -> x.shown(shownCount));
    }

    /** An object that was asked for what it refuses must answer like a twin that was not. */
    private static void unchanged(String call, Made made, int shownCount, Class<? extends RuntimeException> want,
            Asked asked) {
        SpillingColours x = made.make();
        SpillingColours twin = made.make();
        DUE.thrown(call, want, () -> asked.ask(x));
        DUE.text("the state behind " + call, Sources.state(x, shownCount), Sources.state(twin, shownCount));
        DUE.number("run(0) behind " + call, x.run(0), twin.run(0));
        DUE.number("clear() behind " + call, x.clear(), twin.clear());
    }

    /** "there is no result then" is said of allocate; of the source and the latest run nothing is said. */
    private static void failingAllocationLeavesTheSourceAlone() {
        SpillingColours x = Sources.tooLongByOne();
        x.run(0);
        String before = Sources.state(x, 1);
        DUE.number("allocate(3)", x.allocate(3), NONE);
        DUE.text("the state behind allocate(3)", Sources.state(x, 1), before);
        DUE.number("allocate(3) again", x.allocate(3), NONE);
        DUE.number("run(0)", x.run(0), 1);
        DUE.number("put", Sources.put(x, "OUT 0"), 16);
    }

    /** The number of registers that spoil() goes by is a part of the result. */
    private static void wrongAllocationLeavesTheResultAlone() {
        SpillingColours x = Sources.read("SET 0 1, OUT 0");
        x.allocate(4);
        DUE.thrown("allocate(7)", ARGUMENT, () -> x.allocate(7));
        DUE.truth("spoil(0, 1, 4)", x.spoil(0, 1, 4), false);
        DUE.thrown("allocate(2)", ARGUMENT, () -> x.allocate(2));
        DUE.truth("spoil(0, 1, 3)", x.spoil(0, 1, 3), true);
        DUE.truth("accepts()", x.accepts(), false);
        DUE.truth("spoil(1, 2, 3)", x.spoil(1, 2, 3), true);
        DUE.truth("accepts()", x.accepts(), true);
    }

    private static void questionsChangeNothing() {
        SpillingColours x = Sources.fourAtOnce();
        x.allocate(3);
        x.run(1);
        String before = Sources.state(x, 4);
        DUE.truth("spoil(0, 2, 0)", x.spoil(0, 2, 0), false);
        DUE.truth("spoil(12, 1, 0)", x.spoil(12, 1, 0), false);
        DUE.truth("spoil(0, 1, 3)", x.spoil(0, 1, 3), false);
        DUE.truth("live(16, 0)", x.live(16, 0), false);
        DUE.text("the state", Sources.state(x, 4), before);
    }

    /** "An object is used for at most 512 calls after it has been made". */
    private static void holdsFor512Calls() {
        SpillingColours x = Sources.fourAtOnce();
        int calls = 8;
        while (calls < 508) {
            int k = 3 + calls % 4;
            DUE.number("call " + calls + ": allocate(" + k + ")", x.allocate(k), k == 3 ? 3 : 1);
            calls++;
        }
        DUE.number("call 509: allocate(3)", x.allocate(3), 3);
        DUE.truth("call 510: accepts()", x.accepts(), true);
        DUE.number("call 511: run(1)", x.run(1), 4);
        DUE.number("call 512: shown(3)", x.shown(3), 4);
    }
}
