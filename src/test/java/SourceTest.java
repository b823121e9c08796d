/** Promises 2 to 4 (put, clear, live) on ordinary sources; their edges, and promise 1, are in SourceEdgesTest. */
final class SourceTest {
    private static final Due DUE = new Due();

    public static void main(String[] args) {
        promise2PutTakesLinesOfEveryOp();
        promise3ClearLetsANewSourceBegin();
        promise4LiveInStraightCode();
        promise4LiveRoundLoops();
        promise4LiveBesideJumps();
        DUE.finish();
    }

    private static void promise2PutTakesLinesOfEveryOp() {
        SpillingColours x = new SpillingColours();
        for (int op = 0; op <= 7; op++) {
            DUE.number("put(" + op + ", 9, 9, 9)", x.put(op, 9, 9, 9), 2 * op + 1);
            DUE.number("put(" + op + ", 0, 0, 0)", x.put(op, 0, 0, 0), 2 * op + 2);
        }
    }

    private static void promise3ClearLetsANewSourceBegin() {
        SpillingColours x = Sources.read("SET 0 1, OUT 0, OUT 0");
        x.allocate(3);
        DUE.number("clear()", x.clear(), 3);
        DUE.number("put behind clear", Sources.put(x, "OUT 4"), 1);
        x.allocate(3);
        DUE.text("the result behind clear", Sources.result(x), "7 0 0 0 0|");
    }

    private static void promise4LiveInStraightCode() {
        live("SET 0 1, ADD 0 0 1, SUB 2 1 0, SET 0 5, LESS 3 2 0, OUT 3", "0 1 |0 1 |2 |0 2 |3 |");
    }

    private static void promise4LiveRoundLoops() {
        live("BRANCH 1 0", "1 |");
        live("ADD 0 0 1, BRANCH 2 0, SET 1 3, JUMP 0", "0 1 2 |0 1 2 |0 1 2 |0 1 2 |");
        live("SET 0 1, OUT 0, JUMP 0", "0 |");
    }

    private static void promise4LiveBesideJumps() {
        live("JUMP 2, OUT 1, BRANCH 2 4, OUT 3, OUT 4", "2 3 4 |2 3 4 |3 4 |4 |");
        live("JUMP 3, OUT 1, OUT 2", "|2 |");
        live("BRANCH 0 16, OUT 1, JUMP 16, OUT 2", "1 |");
    }

    /** The lines in front are told; nothing is live behind those that are left out. */
    private static void live(String lines, String want) {
        String got = Sources.live(Sources.read(lines));
        DUE.text("live in " + lines, got, want + "|".repeat(16 - (int) want.chars().filter(c -> c == '|').count()));
    }
}
