/** Promises 5 to 9: allocate, lines, line, slots, joined. The results were worked out by hand. */
final class AllocationTest {
    private static final Due DUE = new Due();
    private static final int NONE = SpillingColours.NONE;

    public static void main(String[] args) {
        promise5RefusesOtherNumbersOfRegisters();
        promise5SpillsInRounds();
        promise5SpillsTheLeastWeight();
        promise5LinksJumpsAnew();
        promise5LoadsOnceWhenUsedTwice();
        promise5FailsBeyond48Lines();
        promise5AllocatesNothingInOneRound();
        promise6Lines();
        promise7Line();
        promise8Slots();
        promise9JoinsWhereNothingInterferes();
        promise9LeavesApartWhatInterferes();
        promise9CountsTheLastRound();
        DUE.finish();
    }

    private static void promise5RefusesOtherNumbersOfRegisters() {
        SpillingColours x = Sources.fourAtOnce();
        x.allocate(4);
        String before = Sources.result(x);
        int[] wrong = {2, 7, 0, -1, Integer.MIN_VALUE, Integer.MAX_VALUE};
        for (int k : wrong) {
            DUE.thrown("allocate(" + k + ")", IllegalArgumentException.class, () -> x.allocate(k));
        }
        DUE.text("the result behind wrong calls", Sources.result(x), before);
        DUE.truth("spoil as far as before", x.spoil(0, 1, 3), true);
        DUE.number("allocate(4) again", x.allocate(4), 1);
        DUE.text("a new result", Sources.result(x), before);
        DUE.number("allocate(6)", x.allocate(6), 1);
    }

    private static void promise5SpillsInRounds() {
        SpillingColours x = Sources.fourAtOnce();
        DUE.number("allocate(3)", x.allocate(3), 3);
        DUE.text("four at once", Sources.result(x), "0 0 1 0 0|9 0 0 0 -1|0 0 2 0 1|9 0 1 0 -1|0 2 3 0 2|0 1 4 0 3|"
            + "8 0 0 0 -1|7 0 0 0 4|8 0 1 0 -1|7 0 0 0 5|7 0 2 0 6|7 0 1 0 7|");
        DUE.number("allocate(4)", x.allocate(4), 1);
        DUE.text("four at once in four", Sources.result(x), "0 3 1 0 0|0 2 2 0 1|0 1 3 0 2|0 0 4 0 3|"
            + "7 0 3 0 4|7 0 2 0 5|7 0 1 0 6|7 0 0 0 7|");
    }

    private static void promise5SpillsTheLeastWeight() {
        SpillingColours x = Sources.of(0, 0, 1, 0, 0, 1, 2, 0, 0, 2, 3, 0, 0, 3, 4, 0, 7, 0, 0, 0, 7, 0, 0, 0,
            7, 0, 1, 0, 7, 0, 1, 0, 7, 0, 3, 0, 7, 0, 3, 0, 7, 0, 2, 0);
        DUE.number("allocate(3)", x.allocate(3), 2);
        DUE.text("least weight", Sources.result(x), "0 2 1 0 0|0 1 2 0 1|0 0 3 0 2|9 0 0 0 -1|0 0 4 0 3|7 0 2 0 4|"
            + "7 0 2 0 5|7 0 1 0 6|7 0 1 0 7|7 0 0 0 8|7 0 0 0 9|8 0 0 0 -1|7 0 0 0 10|");
    }

    private static void promise5LinksJumpsAnew() {
        SpillingColours x = Sources.of(0, 0, 1, 0, 0, 1, 2, 0, 0, 2, 3, 0, 0, 3, 4, 0, 5, 0, 5, 0,
            7, 0, 0, 0, 7, 0, 1, 0, 7, 0, 2, 0, 7, 0, 3, 0, 6, 0, 3, 16);
        DUE.number("allocate(3)", x.allocate(3), 3);
        DUE.text("jumps", Sources.result(x), "0 0 1 0 0|9 0 0 0 -1|0 0 2 0 1|9 0 1 0 -1|0 2 3 0 2|0 1 4 0 3|"
            + "5 0 7 0 4|8 0 0 0 -1|7 0 0 0 5|8 0 1 0 -1|7 0 0 0 6|7 0 2 0 7|7 0 1 0 8|6 0 1 14 9|");
        x.allocate(4);
        DUE.number("a jump to the end where nothing is spilled", x.line(9, 3), 16);
    }

    private static void promise5LoadsOnceWhenUsedTwice() {
        SpillingColours x = Sources.of(0, 0, 1, 0, 0, 1, 2, 0, 0, 2, 3, 0, 0, 3, 4, 0,
            7, 0, 1, 0, 7, 0, 2, 0, 7, 0, 3, 0, 7, 0, 1, 0, 7, 0, 2, 0, 7, 0, 3, 0, 2, 4, 0, 0, 7, 0, 4, 0);
        DUE.number("allocate(3)", x.allocate(3), 2);
        DUE.number("lines() with one store and one load", x.lines(), 14);
        DUE.text("the end of the result", Sources.result(x).substring(10), "9 0 0 0 -1|0 2 2 0 1|0 1 3 0 2|0 0 4 0 3|"
            + "7 0 2 0 4|7 0 1 0 5|7 0 0 0 6|7 0 2 0 7|7 0 1 0 8|7 0 0 0 9|8 0 0 0 -1|2 0 0 0 10|7 0 0 0 11|");
    }

    private static void promise5FailsBeyond48Lines() {
        SpillingColours y = Sources.justShortEnough();
        DUE.truth("allocate(3) of 48 lines", y.allocate(3) != NONE, true);
        DUE.number("lines() of 48 lines", y.lines(), 48);
        SpillingColours x = Sources.tooLongByOne();
        DUE.truth("allocate(6)", x.allocate(6) != NONE, true);
        DUE.number("allocate(3) of 49 lines", x.allocate(3), NONE);
        DUE.number("lines() behind a failure", x.lines(), NONE);
        DUE.number("slots() behind a failure", x.slots(), NONE);
        DUE.number("joined() behind a failure", x.joined(), NONE);
        DUE.truth("accepts() behind a failure", x.accepts(), false);
        DUE.truth("spoil behind a failure", x.spoil(0, 1, 0), false);
        DUE.thrown("line behind a failure", IndexOutOfBoundsException.class, () -> x.line(0, 0));
        DUE.thrown("run(1) behind a failure", IllegalStateException.class, () -> x.run(1));
        DUE.number("the source behind a failure", x.clear(), 15);
    }

    private static void promise5AllocatesNothingInOneRound() {
        SpillingColours x = new SpillingColours();
        DUE.number("allocate(3) of nothing", x.allocate(3), 1);
        DUE.number("lines() of nothing", x.lines(), 0);
        DUE.number("slots() of nothing", x.slots(), 0);
        DUE.number("joined() of nothing", x.joined(), 0);
        DUE.truth("accepts() of nothing", x.accepts(), true);
        DUE.thrown("line(0, 0) of nothing", IndexOutOfBoundsException.class, () -> x.line(0, 0));
    }

    private static void promise6Lines() {
        SpillingColours x = Sources.fourAtOnce();
        DUE.number("lines() before allocate", x.lines(), NONE);
        x.allocate(3);
        DUE.number("lines() with three", x.lines(), 12);
        x.allocate(4);
        DUE.number("lines() with four", x.lines(), 8);
    }

    private static void promise7Line() {
        SpillingColours x = Sources.of(0, 3, -7, 0, 6, 0, 3, 1);
        x.allocate(3);
        DUE.text("a set and a branch", Sources.result(x), "0 0 -7 0 0|6 0 0 1 1|");
        int[] wrong = {-1, 2, 48, Integer.MIN_VALUE, Integer.MAX_VALUE};
        for (int i : wrong) {
            DUE.thrown("line(" + i + ", 0)", IndexOutOfBoundsException.class, () -> x.line(i, 0));
        }
        int[] wrongWhats = {-1, 5, Integer.MIN_VALUE, Integer.MAX_VALUE};
        for (int what : wrongWhats) {
            DUE.thrown("line(0, " + what + ")", IndexOutOfBoundsException.class, () -> x.line(0, what));
            DUE.thrown("line(1, " + what + ")", IndexOutOfBoundsException.class, () -> x.line(1, what));
        }
    }

    private static void promise8Slots() {
        SpillingColours x = Sources.fourAtOnce();
        DUE.number("slots() before allocate", x.slots(), NONE);
        x.allocate(3);
        DUE.number("slots() with three", x.slots(), 2);
        x.allocate(4);
        DUE.number("slots() with four", x.slots(), 0);
        x.allocate(3);
        DUE.number("slots() with three again", x.slots(), 2);
    }

    private static void promise9JoinsWhereNothingInterferes() {
        joins("a copy whose source lives on", 1, 0, 0, 1, 0, 1, 1, 0, 0, 7, 0, 0, 0, 7, 0, 1, 0);
        joins("two copies", 2, 0, 0, 1, 0, 1, 1, 0, 0, 1, 2, 1, 0, 7, 0, 2, 0);
        joins("the same copy twice", 1, 1, 1, 0, 0, 1, 1, 0, 0, 7, 0, 1, 0);
        SpillingColours x = Sources.of(0, 5, 1, 0, 1, 2, 5, 0, 7, 0, 5, 0, 7, 0, 2, 0);
        x.allocate(3);
        DUE.text("joined values have one register", Sources.result(x), "0 0 1 0 0|1 0 0 0 1|7 0 0 0 2|7 0 0 0 3|");
    }

    private static void promise9LeavesApartWhatInterferes() {
        joins("a copy of itself", 0, 0, 0, 1, 0, 1, 0, 0, 0, 7, 0, 0, 0);
        joins("a source that changes", 0, 0, 0, 1, 0, 1, 1, 0, 0, 0, 0, 2, 0, 7, 0, 0, 0, 7, 0, 1, 0);
        joins("no copy", 0, 0, 0, 1, 0, 2, 1, 0, 0, 7, 0, 1, 0);
        joins("two copies of which one is joined first", 1, 0, 0, 1, 0, 1, 1, 0, 0, 0, 0, 2, 0, 1, 2, 1, 0, 7, 0, 0, 0,
            7, 0, 2, 0);
    }

    private static void promise9CountsTheLastRound() {
        SpillingColours x = Sources.of(1, 1, 0, 0, 1, 2, 1, 0, 1, 3, 2, 0, 2, 4, 3, 1, 1, 5, 4, 0, 2, 0, 5, 3, 6, 0, 0, 1,
            7, 0, 5, 0, 7, 0, 2, 0, 1, 6, 6, 0, 7, 0, 6, 0);
        DUE.number("joined() before allocate", x.joined(), NONE);
        DUE.number("allocate(3)", x.allocate(3), 3);
        DUE.number("joined() with three", x.joined(), 3);
        DUE.number("allocate(4)", x.allocate(4), 1);
        DUE.number("joined() with four", x.joined(), 2);
    }

    private static void joins(String name, int want, int... numbers) {
        SpillingColours x = Sources.of(numbers);
        DUE.number(name + ": allocate(3)", x.allocate(3), 1);
        DUE.number(name + ": joined()", x.joined(), want);
        DUE.truth(name + ": accepts()", x.accepts(), true);
    }
}
