/**
 * Promises 5 to 9 (allocate, lines, line, slots, joined) on ordinary sources; AllocationEdgesTest has their edges.
 * The results were worked out by hand.
 */
final class AllocationTest {
    private static final Due DUE = new Due();

    public static void main(String[] args) {
        promises5To8FourAtOnceInThree();
        promises5To8FourAtOnceInFour();
        promise5SpillsWhatIsUsedLeast();
        promise7TellsRegistersNumbersAndLines();
        promise9JoinsCopies();
        promise9LeavesApartWhatInterferes();
        promise9CountsTheLastRound();
        DUE.finish();
    }

    private static void promises5To8FourAtOnceInThree() {
        SpillingColours x = Sources.fourAtOnce();
        DUE.number("allocate(3)", x.allocate(3), 3);
        DUE.number("lines()", x.lines(), 12);
        DUE.number("slots()", x.slots(), 2);
        DUE.number("joined()", x.joined(), 0);
        DUE.text("the result", Sources.result(x), "0 0 1 0 0|9 0 0 0 -1|0 0 2 0 1|9 0 1 0 -1|0 2 3 0 2|0 1 4 0 3|"
            + "8 0 0 0 -1|7 0 0 0 4|8 0 1 0 -1|7 0 0 0 5|7 0 2 0 6|7 0 1 0 7|");
    }

    private static void promises5To8FourAtOnceInFour() {
        SpillingColours x = Sources.fourAtOnce();
        DUE.number("allocate(4)", x.allocate(4), 1);
        DUE.number("lines()", x.lines(), 8);
        DUE.number("slots()", x.slots(), 0);
        DUE.text("the result", Sources.result(x), "0 3 1 0 0|0 2 2 0 1|0 1 3 0 2|0 0 4 0 3|"
            + "7 0 3 0 4|7 0 2 0 5|7 0 1 0 6|7 0 0 0 7|");
    }

    private static void promise5SpillsWhatIsUsedLeast() {
        SpillingColours x = Sources.read("SET 0 1, SET 1 2, SET 2 3, SET 3 4, OUT 0, OUT 0, OUT 1, OUT 1, OUT 3, "
            + "OUT 3, OUT 2");
        DUE.number("allocate(3)", x.allocate(3), 2);
        DUE.text("the result", Sources.written(x), "SET 2 1, SET 1 2, SET 0 3, STORE 0 0, SET 0 4, OUT 2, OUT 2, "
            + "OUT 1, OUT 1, OUT 0, OUT 0, LOAD 0 0, OUT 0");
    }

    private static void promise7TellsRegistersNumbersAndLines() {
        SpillingColours x = Sources.read("SET 3 -7, SET 4 8, LESS 5 3 4, BRANCH 5 1");
        x.allocate(3);
        DUE.text("the result", Sources.result(x), "0 1 -7 0 0|0 0 8 0 1|4 0 1 0 2|6 0 0 1 3|");
    }

    private static void promise9JoinsCopies() {
        joins("a copy whose source lives on", "SET 0 1, MOVE 1 0, OUT 0, OUT 1", 1);
        joins("two copies", "SET 0 1, MOVE 1 0, MOVE 2 1, OUT 2", 2);
        joins("the same copy twice", "MOVE 1 0, MOVE 1 0, OUT 1", 1);
        SpillingColours x = Sources.read("SET 5 1, MOVE 2 5, OUT 5, OUT 2");
        x.allocate(3);
        DUE.text("joined values have one register", Sources.written(x), "SET 0 1, MOVE 0 0, OUT 0, OUT 0");
    }

    private static void promise9LeavesApartWhatInterferes() {
        joins("a source that changes", "SET 0 1, MOVE 1 0, SET 0 2, OUT 0, OUT 1", 0);
        joins("no copy", "SET 0 1, ADD 1 0 0, OUT 1", 0);
        joins("a copy of a copy", "SET 0 1, MOVE 1 0, SET 0 2, MOVE 2 1, OUT 0, OUT 2", 1);
    }

    private static void promise9CountsTheLastRound() {
        SpillingColours x = Sources.read("MOVE 1 0, MOVE 2 1, MOVE 3 2, ADD 4 3 1, MOVE 5 4, ADD 0 5 3, BRANCH 0 1, "
            + "OUT 5, OUT 2, MOVE 6 6, OUT 6");
        DUE.number("allocate(3)", x.allocate(3), 3);
        DUE.number("joined() with three", x.joined(), 3);
        DUE.number("allocate(4)", x.allocate(4), 1);
        DUE.number("joined() with four", x.joined(), 2);
    }

    private static void joins(String name, String lines, int want) {
        SpillingColours x = Sources.read(lines);
        DUE.number(name + ": allocate(3)", x.allocate(3), 1);
        DUE.number(name + ": joined()", x.joined(), want);
        DUE.truth(name + ": accepts()", x.accepts(), true);
    }
}
