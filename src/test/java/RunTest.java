/** Promises 12 to 14 (run, shown, ended) on ordinary codes; RunEdgesTest has their edges. */
final class RunTest {
    private static final Due DUE = new Due();

    public static void main(String[] args) {
        promise12RunsEveryOp();
        promise12CountsDown();
        promise12RunsASpoiltResult();
        promise13ShowsTheFirstTwenty();
        promise14TellsWhetherItEnded();
        DUE.finish();
    }

    private static void promise12RunsEveryOp() {
        both("SET 0 7, SET 1 -3, MOVE 2 1, ADD 3 0 1, SUB 4 0 1, LESS 5 1 0, LESS 6 0 1, LESS 7 2 1, BRANCH 6 10, "
            + "JUMP 11, OUT 0, OUT 2, OUT 3, OUT 4, OUT 5, OUT 7", 5, "-3 4 10 1 0 ");
    }

    private static void promise12CountsDown() {
        both("SET 0 3, SET 1 1, OUT 0, SUB 0 0 1, BRANCH 0 2, OUT 0", 4, "3 2 1 0 ");
    }

    private static void promise12RunsASpoiltResult() {
        SpillingColours x = Sources.read("SET 0 4, SET 1 6, OUT 0, OUT 1");
        x.allocate(3);
        x.spoil(2, 2, x.line(1, 1));
        DUE.number("run(1) spoilt", x.run(1), 2);
        DUE.text("shown spoilt", Sources.shown(x, 2), "6 6 ");
        DUE.number("run(0) beside it", x.run(0), 2);
        DUE.text("shown of the source", Sources.shown(x, 2), "4 6 ");
    }

    private static void promise13ShowsTheFirstTwenty() {
        SpillingColours x = Sources.read("SET 1 1, ADD 0 0 1, OUT 0, JUMP 1");
        DUE.number("run(0)", x.run(0), 66);
        DUE.text("shown", Sources.shown(x, 20), "1 2 3 4 5 6 7 8 9 10 11 12 13 14 15 16 17 18 19 20 ");
    }

    private static void promise14TellsWhetherItEnded() {
        SpillingColours x = Sources.read("SET 0 1, OUT 0");
        x.run(0);
        DUE.truth("ended()", x.ended(), true);
        Sources.put(x, "JUMP 0");
        x.run(0);
        DUE.truth("ended() of a loop", x.ended(), false);
    }

    /** The source and, with every number of registers, the result: both must come to the same. */
    private static void both(String lines, int count, String shown) {
        SpillingColours x = Sources.read(lines);
        DUE.number("run(0)", x.run(0), count);
        DUE.text("run(0): shown", Sources.shown(x, count), shown);
        for (int k = 3; k <= 6; k++) {
            x.allocate(k);
            DUE.number("run(1) with " + k, x.run(1), count);
            DUE.text("run(1) with " + k + ": shown", Sources.shown(x, count), shown);
        }
    }
}
