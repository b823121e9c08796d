/** The sentences on the checker (Terms; promises 10 and 11) that name a boundary case, each with a test of its own. */
final class CheckerEdgesTest {
    private static final Due DUE = new Due();
    private static final int LEAST = Integer.MIN_VALUE;
    private static final int GREATEST = Integer.MAX_VALUE;

    public static void main(String[] args) {
        spoilMayGiveTheSame();
        spoilIsFalseWithoutAResult();
        spoilIsFalseWithoutSuchALine();
        spoilIsFalseWithoutARegisterThere();
        spoilIsFalseForTheSlotOfALoadOrStore();
        spoilIsFalseForARegisterNotBelowK();
        spoilGoesByTheLatestK();
        acceptsIsFalseWithoutAResult();
        acceptsNothing();
        beginsWithAllTenInEveryRegister();
        beginsWithAllTenInEverySlot();
        loadTakesOverTheSetOfTheSlot();
        storeTakesOverTheSetOfTheRegister();
        definedValueGoesOutOfAllRegisters();
        definedValueGoesOutOfAllSlots();
        definitionLeavesOneValue();
        moveAddsTheValuesOfWhatItMoves();
        moveWithinARegisterKeepsItsValues();
        keepsWhatIsThereEachWay();
        meetsAtLine0WhenItIsComeToAgain();
        goesRoundUntilNothingChanges();
        keepsWhatALoopLeavesAlone();
        leavesOutLinesThatCannotBeComeTo();
        comesToBothWaysOfABranch();
        looksAtEveryUse();
        DUE.finish();
    }

    /** "becomes another one (or the same): true" (promise 10). */
    private static void spoilMayGiveTheSame() {
        SpillingColours x = allocated("SET 0 1, OUT 0");
        String before = Sources.result(x);
        DUE.truth("spoil to the same", x.spoil(0, 1, 0), true);
        DUE.text("the result", Sources.result(x), before);
        DUE.truth("spoil to another one", x.spoil(0, 1, 1), true);
        DUE.number("line(0, 1)", x.line(0, 1), 1);
        DUE.number("line(1, 2), not spoilt", x.line(1, 2), 0);
    }

    /** "False when there is no such line": none without a result. */
    private static void spoilIsFalseWithoutAResult() {
        SpillingColours x = Sources.read("SET 0 1, OUT 0");
        DUE.truth("spoil before allocate", x.spoil(0, 1, 0), false);
        x.allocate(3);
        Sources.put(x, "OUT 0");
        DUE.truth("spoil behind put", x.spoil(0, 1, 0), false);
        x.allocate(3);
        x.clear();
        DUE.truth("spoil behind clear", x.spoil(0, 1, 0), false);
    }

    /** "False when there is no such line". */
    private static void spoilIsFalseWithoutSuchALine() {
        SpillingColours x = allocated("SET 0 1, SET 0 2");
        int[] wrong = {-1, 2, 3, 47, 48, LEAST, GREATEST};
        for (int i : wrong) {
            DUE.truth("spoil(" + i + ", 1, 0)", x.spoil(i, 1, 0), false);
        }
        DUE.truth("spoil(1, 1, 0)", x.spoil(1, 1, 0), true);
    }

    /** "or register there": in every op and column. */
    private static void spoilIsFalseWithoutARegisterThere() {
        String ops = "SET 0 1, MOVE 0 0, ADD 0 0 0, SUB 0 0 0, LESS 0 0 0, JUMP 6, BRANCH 0 7, OUT 0";
        String[] registers = {"1", "12", "123", "123", "123", "", "2", "2"};
        int[] whats = {-1, 0, 1, 2, 3, 4, 5, LEAST, GREATEST};
        for (int i = 0; i <= 7; i++) {
            for (int what : whats) {
                SpillingColours x = allocated(ops);
                String before = Sources.result(x);
                boolean due = registers[i].contains("" + what);
                DUE.truth("spoil(" + i + ", " + what + ", 2)", x.spoil(i, what, 2), due);
                DUE.truth("the result is the same", Sources.result(x).equals(before), !due);
            }
        }
    }

    /** The same: a slot is no register, and the d of a LOAD or STORE is one. */
    private static void spoilIsFalseForTheSlotOfALoadOrStore() {
        SpillingColours x = Sources.fourAtOnce();
        x.allocate(3);
        int[] lines = {1, 6};
        for (int i : lines) {
            DUE.truth("spoil(" + i + ", 2, 1) of a slot", x.spoil(i, 2, 1), false);
            DUE.truth("spoil(" + i + ", 3, 1) of nothing", x.spoil(i, 3, 1), false);
            DUE.number("the slot", x.line(i, 2), 0);
            DUE.truth("spoil(" + i + ", 1, 2) of a register", x.spoil(i, 1, 2), true);
            DUE.number("the register", x.line(i, 1), 2);
        }
    }

    /** "or the other one is not below K": nor is there a register below 0. */
    private static void spoilIsFalseForARegisterNotBelowK() {
        for (int k = 3; k <= 6; k++) {
            SpillingColours x = Sources.read("SET 0 1");
            x.allocate(k);
            int[] wrong = {k, k + 1, GREATEST, -1, LEAST};
            for (int register : wrong) {
                DUE.truth("spoil(0, 1, " + register + ") with " + k, x.spoil(0, 1, register), false);
                DUE.number("line(0, 1)", x.line(0, 1), 0);
            }
            DUE.truth("spoil(0, 1, " + (k - 1) + ") with " + k, x.spoil(0, 1, k - 1), true);
            DUE.number("line(0, 1)", x.line(0, 1), k - 1);
        }
    }

    /** The same: K is that of the result that there is. */
    private static void spoilGoesByTheLatestK() {
        SpillingColours x = Sources.read("SET 0 1");
        x.allocate(6);
        x.allocate(3);
        DUE.truth("spoil(0, 1, 3) with three", x.spoil(0, 1, 3), false);
        x.allocate(5);
        DUE.thrown("allocate(2)", IllegalArgumentException.class, () -> x.allocate(2));
        DUE.thrown("allocate(7)", IllegalArgumentException.class, () -> x.allocate(7));
        DUE.truth("spoil(0, 1, 5) with five", x.spoil(0, 1, 5), false);
        DUE.truth("spoil(0, 1, 4) with five", x.spoil(0, 1, 4), true);
    }

    /** "false when there is none." (promise 11). */
    private static void acceptsIsFalseWithoutAResult() {
        SpillingColours x = new SpillingColours();
        DUE.truth("accepts() of a new object", x.accepts(), false);
        Sources.put(x, "OUT 0");
        DUE.truth("accepts() before allocate", x.accepts(), false);
        x.allocate(3);
        DUE.truth("accepts()", x.accepts(), true);
        Sources.put(x, "OUT 0");
        DUE.truth("accepts() behind put", x.accepts(), false);
    }

    /** "ACCEPTED when at every line": where there is none, nothing is wrong. */
    private static void acceptsNothing() {
        SpillingColours x = new SpillingColours();
        x.allocate(3);
        DUE.truth("accepts() without lines", x.accepts(), true);
    }

    /** "at the beginning of line 0 all ten in every place": in every register. */
    private static void beginsWithAllTenInEveryRegister() {
        for (int value = 0; value <= 9; value++) {
            for (int register = 0; register < 3; register++) {
                SpillingColours x = allocated("OUT " + value);
                x.spoil(0, 2, register);
                DUE.truth("accepts() of " + value + " in register " + register, x.accepts(), true);
            }
        }
    }

    /** The same: in every slot. 4 and 9 are loaded, but never stored. */
    private static void beginsWithAllTenInEverySlot() {
        SpillingColours x = allocated("SET 6 0, MOVE 3 3, MOVE 1 1, ADD 6 9 4");
        DUE.number("slots()", x.slots(), 2);
        DUE.truth("accepts()", x.accepts(), true);
        x.spoil(5, 2, 0);
        x.spoil(5, 3, 1);
        DUE.truth("accepts() with both changed over", x.accepts(), true);
    }

    /** "LOAD: the register's set becomes that of the slot". */
    private static void loadTakesOverTheSetOfTheSlot() {
        SpillingColours x = Sources.fourAtOnce();
        x.allocate(3);
        x.spoil(6, 1, 1);
        DUE.truth("accepts() with the load over value 3", x.accepts(), false);
        x.spoil(7, 2, 1);
        DUE.truth("accepts() with value 0 taken from there, 3 being lost", x.accepts(), false);
        x.spoil(6, 1, 0);
        DUE.truth("accepts() with value 0 taken from where 3 is", x.accepts(), false);
        x.spoil(7, 2, 0);
        DUE.truth("accepts() of the result as it was", x.accepts(), true);
    }

    /** "STORE: the slot's that of the register". */
    private static void storeTakesOverTheSetOfTheRegister() {
        SpillingColours x = Sources.fourAtOnce();
        x.allocate(3);
        x.spoil(1, 1, 1);
        DUE.truth("accepts() with another register stored", x.accepts(), false);
        x.spoil(0, 1, 1);
        DUE.truth("accepts() with the value there", x.accepts(), true);
        SpillingColours y = allocated("SET 0 1, SET 1 2, SET 2 3, SET 3 4, OUT 2, OUT 3, OUT 0, OUT 9, OUT 1");
        DUE.text("the result", Sources.written(y), "SET 0 1, STORE 0 0, SET 1 2, SET 2 3, SET 0 4, OUT 2, OUT 0, "
            + "LOAD 0 0, OUT 0, LOAD 0 1, OUT 0, OUT 1");
        y.spoil(9, 1, 2);
        DUE.truth("accepts() with 9 taken from what only 0 was stored to", y.accepts(), false);
        y.spoil(10, 2, 2);
        DUE.truth("accepts() with 9 taken from where it is loaded to", y.accepts(), true);
    }

    /** "v goes out of all sets": out of those of other registers. */
    private static void definedValueGoesOutOfAllRegisters() {
        SpillingColours x = allocated("SET 1 5, OUT 1");
        x.spoil(0, 1, 1);
        DUE.truth("accepts() with what the value was at first", x.accepts(), false);
        x.spoil(1, 2, 2);
        DUE.truth("accepts() with what it was elsewhere", x.accepts(), false);
        x.spoil(1, 2, 1);
        DUE.truth("accepts() with what it became", x.accepts(), true);
    }

    /** The same: out of those of the slots. The slot of 7 had 8 in it only until line 2 of the source. */
    private static void definedValueGoesOutOfAllSlots() {
        SpillingColours x = allocated("SET 1 0, SET 4 0, ADD 8 1 8, OUT 8, ADD 0 8 7");
        DUE.text("the result", Sources.written(x),
            "SET 2 0, SET 0 0, STORE 0 0, ADD 1 2 1, OUT 1, LOAD 0 1, ADD 0 1 0");
        x.spoil(6, 2, 0);
        DUE.truth("accepts() with 8 taken from what was loaded", x.accepts(), false);
        x.spoil(6, 2, 1);
        DUE.truth("accepts() of the result as it was", x.accepts(), true);
    }

    /** "then the register's set becomes the one value v". */
    private static void definitionLeavesOneValue() {
        SpillingColours x = allocated("SET 6 0, OUT 7");
        x.spoil(0, 1, 0);
        x.spoil(1, 2, 0);
        DUE.truth("accepts() with 7 where 6 was set", x.accepts(), false);
        x.spoil(1, 2, 2);
        DUE.truth("accepts() with 7 elsewhere", x.accepts(), true);
    }

    /** "and for a MOVE, besides, all values of the register it was moved from". */
    private static void moveAddsTheValuesOfWhatItMoves() {
        SpillingColours x = allocated("SET 0 5, MOVE 1 0, MOVE 2 1, OUT 0, OUT 1, OUT 2");
        x.spoil(0, 1, 0);
        x.spoil(1, 1, 1);
        x.spoil(1, 2, 0);
        x.spoil(2, 1, 2);
        x.spoil(2, 2, 1);
        for (int out = 3; out <= 5; out++) {
            x.spoil(out, 2, 2);
        }
        DUE.truth("accepts() with all three from the last copy", x.accepts(), true);
        x.spoil(5, 2, 1);
        DUE.truth("accepts() with the last one from the first copy", x.accepts(), false);
    }

    /** The same, from a register to itself. */
    private static void moveWithinARegisterKeepsItsValues() {
        SpillingColours x = allocated("SET 3 5, MOVE 0 3, OUT 3, OUT 0");
        DUE.text("the result", Sources.written(x), "SET 0 5, MOVE 0 0, OUT 0, OUT 0");
        DUE.truth("accepts()", x.accepts(), true);
        SpillingColours y = allocated("SET 3 5, MOVE 3 3, OUT 3");
        DUE.truth("accepts() of a value moved to itself", y.accepts(), true);
        y.spoil(1, 1, 1);
        DUE.truth("accepts() of a value that is moved away", y.accepts(), false);
    }

    /** "At a line that can be come to in several ways there are those values alone that are there each way." */
    private static void keepsWhatIsThereEachWay() {
        SpillingColours x = allocated("BRANCH 0 3, SET 1 1, JUMP 4, SET 1 2, OUT 1");
        int one = x.line(1, 1);
        int other = (one + 1) % 3;
        x.spoil(3, 1, other);
        DUE.truth("accepts() with the value elsewhere one way", x.accepts(), false);
        x.spoil(4, 2, other);
        DUE.truth("accepts() with the value elsewhere the other way", x.accepts(), false);
        x.spoil(1, 1, other);
        DUE.truth("accepts() with the value there each way", x.accepts(), true);
    }

    /** The same at line 0, which is come to at the beginning and from line 1. */
    private static void meetsAtLine0WhenItIsComeToAgain() {
        SpillingColours x = allocated("ADD 4 0 3, JUMP 0");
        DUE.truth("accepts() of the result", x.accepts(), true);
        x.spoil(0, 2, x.line(0, 1));
        DUE.truth("accepts() with 0 where 4 will be", x.accepts(), false);
    }

    /** The same where it is seen only when the lines are gone through again. */
    private static void goesRoundUntilNothingChanges() {
        SpillingColours x = allocated("OUT 2, ADD 1 1 2, JUMP 0");
        DUE.truth("accepts() of the result", x.accepts(), true);
        x.spoil(1, 1, 2);
        DUE.truth("accepts() with 1 elsewhere the second time", x.accepts(), false);
    }

    /** The same: what no way changes is there each way, however often it goes round. */
    private static void keepsWhatALoopLeavesAlone() {
        SpillingColours x = allocated("SET 0 7, SET 1 3, SUB 1 1 2, BRANCH 1 2, OUT 0, OUT 1");
        DUE.truth("accepts()", x.accepts(), true);
    }

    /** "at every line that can be come to": others may be wrong. */
    private static void leavesOutLinesThatCannotBeComeTo() {
        SpillingColours x = allocated("SET 0 1, JUMP 3, OUT 0, OUT 0");
        int other = (x.line(0, 1) + 1) % 3;
        x.spoil(2, 2, other);
        DUE.truth("accepts() with line 2 wrong", x.accepts(), true);
        x.spoil(3, 2, other);
        DUE.truth("accepts() with line 3 wrong", x.accepts(), false);
        SpillingColours y = allocated("SET 0 1, JUMP 16, OUT 0");
        y.spoil(2, 2, other);
        DUE.truth("accepts() with a line wrong behind the end", y.accepts(), true);
        SpillingColours z = allocated("SET 0 1, JUMP 3, SET 0 2, OUT 0");
        z.spoil(2, 1, 1);
        DUE.truth("accepts() with a wrong way from a line that is not come to", z.accepts(), true);
    }

    /** The same: a BRANCH leads both ways, whatever its value is. */
    private static void comesToBothWaysOfABranch() {
        SpillingColours x = allocated("SET 0 1, BRANCH 0 3, OUT 0, OUT 0");
        int other = (x.line(0, 1) + 1) % 3;
        x.spoil(2, 2, other);
        DUE.truth("accepts() with the next line wrong", x.accepts(), false);
        SpillingColours y = allocated("SET 0 0, BRANCH 0 3, JUMP 4, OUT 0");
        y.spoil(3, 2, other);
        DUE.truth("accepts() with the line wrong that is branched to", y.accepts(), false);
    }

    /** "wherever its source line uses a value": in each op and column. */
    private static void looksAtEveryUse() {
        String[] uses = {"MOVE 2 0", "ADD 2 0 0", "SUB 2 0 0", "LESS 2 0 0", "BRANCH 0 2", "OUT 0"};
        int[] columns = {1, 2, 2, 2, 1, 1};
        for (int i = 0; i < uses.length; i++) {
            for (int what = 2; what <= 1 + columns[i]; what++) {
                SpillingColours x = allocated("SET 0 1, " + uses[i]);
                x.spoil(1, what, (x.line(0, 1) + 1) % 3);
                DUE.truth("accepts() of " + uses[i] + " wrong at " + what, x.accepts(), false);
            }
        }
        SpillingColours x = allocated("SET 0 1, OUT 0");
        x.spoil(0, 1, 2);
        x.spoil(1, 2, 2);
        DUE.truth("accepts() with the definition elsewhere too", x.accepts(), true);
    }

    private static SpillingColours allocated(String lines) {
        SpillingColours x = Sources.read(lines);
        x.allocate(3);
        return x;
    }
}
