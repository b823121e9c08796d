/** Promises 12 to 14: run, shown, ended. */
final class RunTest {
    private static final Due DUE = new Due();

    public static void main(String[] args) {
        promise12RunsEveryOp();
        promise12WrapsNumbers();
        promise12BeginsWithZeros();
        promise12StopsBeforeLine201();
        promise12DoesNotCountLoadsAndStores();
        promise12EndsAtLinesThatAreNotThere();
        promise12RunsASpoiltResult();
        promise12RefusesOtherCodes();
        promise13KeepsTwenty();
        promise13And14StayWhateverIsDone();
        promise14Ended();
        DUE.finish();
    }

    private static void promise12RunsEveryOp() {
        SpillingColours x = Sources.of(0, 0, 7, 0, 0, 1, -3, 0, 1, 2, 1, 0, 2, 3, 0, 1, 3, 4, 0, 1, 4, 5, 1, 0, 4, 6, 0, 1,
            4, 7, 2, 1, 6, 0, 6, 10, 5, 0, 11, 0, 7, 0, 0, 0, 7, 0, 2, 0, 7, 0, 3, 0, 7, 0, 4, 0, 7, 0, 5, 0, 7, 0, 7, 0);
        both(x, 5, "-3 4 10 1 0 ", true);
        SpillingColours y = Sources.of(0, 0, 3, 0, 0, 1, 1, 0, 7, 0, 0, 0, 3, 0, 0, 1, 6, 0, 0, 2, 7, 0, 0, 0);
        both(y, 4, "3 2 1 0 ", true);
        SpillingColours z = Sources.of(0, 0, -1, 0, 6, 0, 0, 3, 7, 0, 0, 0, 7, 0, 1, 0);
        both(z, 1, "0 ", true);
    }

    private static void promise12WrapsNumbers() {
        SpillingColours x = Sources.of(0, 0, Integer.MAX_VALUE, 0, 0, 1, Integer.MIN_VALUE, 0, 2, 2, 0, 0, 3, 3, 1, 0,
            3, 4, 0, 1, 4, 5, 1, 0, 7, 0, 2, 0, 7, 0, 3, 0, 7, 0, 4, 0, 7, 0, 5, 0);
        both(x, 4, "-2 1 -1 1 ", true);
    }

    private static void promise12BeginsWithZeros() {
        SpillingColours x = Sources.of(7, 0, 9, 0, 0, 9, 5, 0, 7, 0, 9, 0);
        both(x, 2, "0 5 ", true);
        both(x, 2, "0 5 ", true);
    }

    private static void promise12StopsBeforeLine201() {
        both(Sources.of(7, 0, 0, 0, 5, 0, 0, 0), 100, null, false);
        both(Sources.of(5, 0, 0, 0), 0, "", false);
        both(countdown(99, false), 0, "", true);
        both(countdown(98, true), 1, "0 ", true);
        both(countdown(99, true), 0, "", false);
    }

    /** Two lines, two lines each time round, and one line more if it puts out. */
    private static SpillingColours countdown(int times, boolean putsOut) {
        SpillingColours x = Sources.of(0, 0, times, 0, 0, 1, 1, 0, 3, 0, 0, 1, 6, 0, 0, 2);
        if (putsOut) {
            x.put(7, 0, 0, 0);
        }
        return x;
    }

    /** The 200th line that counts has a STORE behind it, and behind that one the code ends. */
    private static void promise12DoesNotCountLoadsAndStores() {
        SpillingColours x = storingLast(93);
        DUE.truth("allocate(3)", x.allocate(3) > 1, true);
        DUE.number("the op of the last line", x.line(x.lines() - 1, 0), Sources.STORE);
        both(x, 8, "12 13 13 13 13 14 14 14 ", true);
        both(storingLast(94), 7, "12 13 13 13 13 14 14 ", false);
    }

    private static SpillingColours storingLast(int times) {
        return Sources.of(0, 0, times, 0, 0, 1, 1, 0, 0, 2, 12, 0, 0, 3, 13, 0, 0, 4, 14, 0, 3, 0, 0, 1, 6, 0, 0, 5,
            7, 0, 2, 0, 7, 0, 3, 0, 7, 0, 3, 0, 7, 0, 3, 0, 7, 0, 3, 0, 7, 0, 4, 0, 7, 0, 4, 0, 7, 0, 4, 0, 0, 2, 7, 0);
    }

    private static void promise12EndsAtLinesThatAreNotThere() {
        both(Sources.of(5, 0, 16, 0, 7, 0, 0, 0), 0, "", true);
        both(Sources.of(5, 0, 2, 0, 7, 0, 0, 0), 0, "", true);
        both(Sources.of(0, 0, 1, 0, 6, 0, 0, 9, 7, 0, 0, 0), 0, "", true);
        both(new SpillingColours(), 0, "", true);
    }

    private static void promise12RunsASpoiltResult() {
        SpillingColours x = Sources.of(0, 0, 4, 0, 0, 1, 6, 0, 7, 0, 0, 0, 7, 0, 1, 0);
        x.allocate(3);
        x.spoil(2, 2, x.line(1, 1));
        DUE.number("run(1) spoilt", x.run(1), 2);
        DUE.text("shown spoilt", Sources.shown(x, 2), "6 6 ");
        DUE.number("run(0) beside it", x.run(0), 2);
        DUE.text("shown of the source", Sources.shown(x, 2), "4 6 ");
    }

    private static void promise12RefusesOtherCodes() {
        SpillingColours x = Sources.of(0, 0, 4, 0, 7, 0, 0, 0);
        x.run(0);
        int[] wrong = {-1, 2, Integer.MIN_VALUE, Integer.MAX_VALUE};
        for (int code : wrong) {
            DUE.thrown("run(" + code + ")", IllegalArgumentException.class, () -> x.run(code));
        }
        DUE.thrown("run(1) without a result", IllegalStateException.class, () -> x.run(1));
        DUE.number("shown(0) behind refused runs", x.shown(0), 4);
        DUE.truth("ended() behind refused runs", x.ended(), true);
    }

    private static void promise13KeepsTwenty() {
        SpillingColours x = Sources.of(0, 1, 1, 0, 2, 0, 0, 1, 7, 0, 0, 0, 5, 0, 1, 0);
        DUE.number("run(0)", x.run(0), 66);
        DUE.text("shown", Sources.shown(x, 20), "1 2 3 4 5 6 7 8 9 10 11 12 13 14 15 16 17 18 19 20 ");
        int[] wrong = {20, 21, 65, -1, Integer.MIN_VALUE, Integer.MAX_VALUE};
        for (int k : wrong) {
            DUE.thrown("shown(" + k + ")", IndexOutOfBoundsException.class, () -> x.shown(k));
        }
        x.clear();
        x.put(7, 0, 3, 0);
        x.run(0);
        DUE.number("shown(0) of a shorter run", x.shown(0), 0);
        DUE.thrown("shown(1) of a shorter run", IndexOutOfBoundsException.class, () -> x.shown(1));
    }

    private static void promise13And14StayWhateverIsDone() {
        SpillingColours x = Sources.of(0, 0, 8, 0, 7, 0, 0, 0);
        x.run(0);
        x.allocate(3);
        x.spoil(0, 1, 2);
        x.accepts();
        x.put(5, 0, 0, 0);
        x.clear();
        DUE.number("shown(0)", x.shown(0), 8);
        DUE.truth("ended()", x.ended(), true);
    }

    private static void promise14Ended() {
        SpillingColours x = Sources.of(5, 0, 0, 0);
        DUE.truth("ended() before a run", x.ended(), false);
        x.run(0);
        DUE.truth("ended() of an endless run", x.ended(), false);
        x.clear();
        DUE.truth("ended() behind clear", x.ended(), false);
        x.run(0);
        DUE.truth("ended() of a run of nothing", x.ended(), true);
        x.put(5, 0, 0, 0);
        DUE.truth("ended() behind put", x.ended(), true);
        x.run(0);
        DUE.truth("ended() of the latest run", x.ended(), false);
    }

    /** The source and, with every number of registers, the result: both must come to the same. */
    private static void both(SpillingColours x, int count, String shown, boolean ended) {
        same("run(0)", x, 0, count, shown, ended);
        for (int k = 3; k <= 6; k++) {
            if (x.allocate(k) != SpillingColours.NONE) {
                same("allocate(" + k + "), run(1)", x, 1, count, shown, ended);
            }
        }
    }

    private static void same(String call, SpillingColours x, int code, int count, String shown, boolean ended) {
        DUE.number(call, x.run(code), count);
        if (shown != null) {
            DUE.text(call + " shown", Sources.shown(x, count), shown);
        }
        DUE.truth(call + " ended()", x.ended(), ended);
    }
}
