/** Promises 10 and 11: spoil and accepts. */
final class CheckerTest {
    private static final Due DUE = new Due();

    public static void main(String[] args) {
        promise10SpoilsRegistersAlone();
        promise10SpoilsLoadsAndStores();
        promise10RefusesOtherRegisters();
        promise10RefusesOtherLines();
        promise11AcceptsWhatAllocateMade();
        promise11SeesAWrongRegister();
        promise11KnowsCopies();
        promise11BeginsWithAllValuesEverywhere();
        promise11MeetsAtTheBeginning();
        promise11MeetsWaysOfABranch();
        promise11FollowsSlots();
        promise11LeavesOutWhatCannotBeReached();
        DUE.finish();
    }

    /** One line of every op, all over one value. */
    private static SpillingColours everyOp() {
        SpillingColours x = Sources.of(0, 0, 1, 0, 1, 0, 0, 0, 2, 0, 0, 0, 3, 0, 0, 0, 4, 0, 0, 0, 5, 0, 6, 0, 6, 0, 0, 7,
            7, 0, 0, 0);
        x.allocate(3);
        return x;
    }

    private static void promise10SpoilsRegistersAlone() {
        String[] registers = {"1", "12", "123", "123", "123", "", "2", "2"};
        for (int op = 0; op <= 7; op++) {
            for (int what = -1; what <= 5; what++) {
                SpillingColours x = everyOp();
                boolean due = what >= 1 && registers[op].indexOf((char) ('0' + what)) >= 0;
                String before = Sources.result(x);
                DUE.truth("spoil(" + op + ", " + what + ", 2)", x.spoil(op, what, 2), due);
                if (due) {
                    DUE.number("line(" + op + ", " + what + ") spoilt", x.line(op, what), 2);
                    DUE.truth("spoil back", x.spoil(op, what, 0), true);
                }
                DUE.text("the rest of the result", Sources.result(x), before);
            }
        }
    }

    private static void promise10SpoilsLoadsAndStores() {
        SpillingColours x = Sources.fourAtOnce();
        x.allocate(3);
        DUE.truth("spoil of a store's register", x.spoil(1, 1, 2), true);
        DUE.number("the store's register", x.line(1, 1), 2);
        DUE.truth("spoil of a store's slot", x.spoil(1, 2, 0), false);
        DUE.truth("spoil of a load's register", x.spoil(6, 1, 1), true);
        DUE.number("the load's register", x.line(6, 1), 1);
        DUE.truth("spoil of a load's slot", x.spoil(6, 2, 0), false);
        DUE.truth("spoil of a load's b", x.spoil(6, 3, 0), false);
    }

    private static void promise10RefusesOtherRegisters() {
        for (int k = 3; k <= 6; k++) {
            SpillingColours x = Sources.of(0, 0, 1, 0);
            x.allocate(k);
            DUE.truth("spoil(0, 1, " + k + ")", x.spoil(0, 1, k), false);
            DUE.truth("spoil(0, 1, -1)", x.spoil(0, 1, -1), false);
            DUE.truth("spoil to the least number", x.spoil(0, 1, Integer.MIN_VALUE), false);
            DUE.number("line(0, 1) unspoilt", x.line(0, 1), 0);
            DUE.truth("spoil(0, 1, " + (k - 1) + ")", x.spoil(0, 1, k - 1), true);
            DUE.truth("spoil to the same", x.spoil(0, 1, k - 1), true);
            DUE.number("line(0, 1) spoilt", x.line(0, 1), k - 1);
        }
    }

    private static void promise10RefusesOtherLines() {
        SpillingColours x = everyOp();
        int[] wrong = {-1, 8, 48, Integer.MIN_VALUE, Integer.MAX_VALUE};
        for (int i : wrong) {
            DUE.truth("spoil(" + i + ", 1, 0)", x.spoil(i, 1, 0), false);
        }
        x.put(7, 0, 0, 0);
        DUE.truth("spoil without a result", x.spoil(0, 1, 0), false);
    }

    private static void promise11AcceptsWhatAllocateMade() {
        SpillingColours x = Sources.fourAtOnce();
        DUE.truth("accepts() before allocate", x.accepts(), false);
        for (int k = 3; k <= 6; k++) {
            x.allocate(k);
            DUE.truth("accepts() with " + k, x.accepts(), true);
        }
        x.clear();
        DUE.truth("accepts() behind clear", x.accepts(), false);
    }

    private static void promise11SeesAWrongRegister() {
        SpillingColours x = Sources.of(0, 0, 1, 0, 0, 1, 2, 0, 7, 0, 0, 0, 2, 2, 1, 1);
        x.allocate(3);
        int zero = x.line(0, 1);
        int one = x.line(1, 1);
        x.spoil(2, 2, one);
        DUE.truth("accepts() with another value put out", x.accepts(), false);
        x.spoil(2, 2, zero);
        DUE.truth("accepts() mended", x.accepts(), true);
        x.spoil(1, 1, zero);
        DUE.truth("accepts() with a value lost", x.accepts(), false);
        x.spoil(1, 1, one);
        x.spoil(3, 3, zero);
        DUE.truth("accepts() with a wrong b", x.accepts(), false);
        x.spoil(3, 3, one);
        x.spoil(3, 1, zero);
        DUE.truth("accepts() with a dead value elsewhere", x.accepts(), true);
    }

    private static void promise11KnowsCopies() {
        SpillingColours x = Sources.of(0, 0, 5, 0, 1, 1, 0, 0, 7, 0, 0, 0, 7, 0, 1, 0, 0, 0, 6, 0, 7, 0, 1, 0);
        x.allocate(3);
        int r = x.line(0, 1);
        int other = (r + 1) % 3;
        for (int i = 0; i <= 5; i++) {
            x.spoil(i, 1, r);
            x.spoil(i, 2, r);
        }
        x.spoil(4, 1, (r + 2) % 3);
        DUE.truth("accepts() with both in one register", x.accepts(), true);
        x.spoil(1, 1, other);
        DUE.truth("accepts() with the copy elsewhere", x.accepts(), false);
        x.spoil(3, 2, other);
        x.spoil(5, 2, other);
        DUE.truth("accepts() with its uses there too", x.accepts(), true);
        x.spoil(2, 2, other);
        DUE.truth("accepts() with the copied value taken from the copy", x.accepts(), true);
        x.spoil(4, 1, other);
        DUE.truth("accepts() with the copy overwritten", x.accepts(), false);
    }

    private static void promise11BeginsWithAllValuesEverywhere() {
        SpillingColours x = Sources.of(7, 0, 3, 0, 7, 0, 4, 0, 0, 3, 1, 0, 7, 0, 3, 0, 7, 0, 5, 0);
        x.allocate(3);
        int three = x.line(2, 1);
        int other = (three + 1) % 3;
        x.spoil(4, 2, other);
        DUE.truth("accepts() before the change", x.accepts(), true);
        x.spoil(0, 2, other);
        DUE.truth("accepts() with a value taken from anywhere", x.accepts(), true);
        x.spoil(3, 2, other);
        DUE.truth("accepts() with an old value taken", x.accepts(), false);
        x.spoil(3, 2, three);
        DUE.truth("accepts() mended", x.accepts(), true);
        x.spoil(4, 2, three);
        DUE.truth("accepts() where a line made the set one value", x.accepts(), false);
    }

    private static void promise11MeetsAtTheBeginning() {
        SpillingColours x = Sources.of(7, 0, 1, 0, 0, 1, 5, 0, 6, 0, 1, 0);
        x.allocate(3);
        x.spoil(1, 1, 2);
        x.spoil(2, 2, 2);
        DUE.truth("accepts() with line 0 wrong when it is come to again", x.accepts(), false);
        x.spoil(0, 2, 2);
        DUE.truth("accepts() with line 0 right both ways", x.accepts(), true);
    }

    private static void promise11MeetsWaysOfABranch() {
        SpillingColours x = Sources.of(6, 0, 0, 3, 0, 1, 1, 0, 5, 0, 4, 0, 0, 1, 2, 0, 7, 0, 1, 0);
        x.allocate(3);
        int one = x.line(1, 1);
        x.spoil(3, 1, (one + 1) % 3);
        DUE.truth("accepts() with another register one way", x.accepts(), false);
        x.spoil(4, 2, (one + 1) % 3);
        DUE.truth("accepts() with another register the other way", x.accepts(), false);
        x.spoil(1, 1, (one + 1) % 3);
        DUE.truth("accepts() with one register both ways", x.accepts(), true);
    }

    private static void promise11FollowsSlots() {
        SpillingColours x = Sources.fourAtOnce();
        x.allocate(3);
        x.spoil(1, 1, 1);
        DUE.truth("accepts() with a wrong store", x.accepts(), false);
        x.spoil(0, 1, 1);
        DUE.truth("accepts() with the value where it is stored from", x.accepts(), true);
        x.spoil(6, 1, 1);
        DUE.truth("accepts() with a load to another register", x.accepts(), false);
        x.spoil(7, 2, 1);
        DUE.truth("accepts() with a load over a value", x.accepts(), false);
        x.spoil(6, 1, 0);
        x.spoil(7, 2, 0);
        DUE.truth("accepts() mended", x.accepts(), true);
    }

    private static void promise11LeavesOutWhatCannotBeReached() {
        SpillingColours x = Sources.of(0, 0, 1, 0, 5, 0, 3, 0, 7, 0, 0, 0, 7, 0, 0, 0);
        x.allocate(3);
        int other = (x.line(0, 1) + 1) % 3;
        x.spoil(2, 2, other);
        DUE.truth("accepts() with a line spoilt that is never come to", x.accepts(), true);
        x.spoil(3, 2, other);
        DUE.truth("accepts() with one that is", x.accepts(), false);
    }
}
