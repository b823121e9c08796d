/**
 * The sentences on allocation (Terms; promises 5 to 9) that name a boundary case, each with a test of its own.
 *
 * Three clauses have none, because no source can come to them with 3 registers or more. A group that was joined
 * has, among the groups that are left when no degree is less than K, fewer than K neighbours, so it is none of
 * them. A temporary value that was not joined has there at most one neighbour that is temporary as well. So the
 * groups that are left then are never all with temporary values, and a group with one is never spilled. Each
 * temporary value comes with a line, so there are 48 lines before there is a value 60.
 */
final class AllocationEdgesTest {
    private static final Due DUE = new Due();
    private static final int NONE = SpillingColours.NONE;
    private static final int LEAST = Integer.MIN_VALUE;
    private static final int GREATEST = Integer.MAX_VALUE;

    public static void main(String[] args) {
        twoDifferentValuesInterfere();
        definitionWithoutUseInterferes();
        valueThatIsNotLiveBehindDoesNotInterfere();
        moveDoesNotInterfereWithWhatItMoves();
        moveInterferesWithOthers();
        otherLinesInterfereAllTheSame();
        numbersThatAreNoValuesDoNotStand();
        groupsNumberIsTheLeast();
        moveWithinAGroupIsNotJoined();
        neighboursAreNotJoined();
        joinsWithFewerThanKHighNeighbours();
        doesNotJoinWithKHighNeighbours();
        degreeOfKIsHigh();
        degreeIsThatAfterTheJoining();
        firstMoveIsJoinedFirst();
        joinsAgainUntilThereIsNone();
        takesOffTheLeastBelowK();
        doesNotTakeOffADegreeOfKFreely();
        takesOffByDegreeAmongThoseLeft();
        takesOffTheLeastWeight();
        weightIsNotRounded();
        weightIsDividedByTheDegreeAmongThoseLeft();
        takesOffTheLeastOfEqualWeight();
        doesNotTakeOffTemporaryValuesByWeight();
        givesTheLeastFreeRegister();
        givesARegisterWhereOneIsFreeAllTheSame();
        givesSlotsFromTheLeastOn();
        givesTheNextSlotInALaterRound();
        loadsABeforeB();
        loadsOnceWhatIsUsedTwice();
        definesATemporaryMadeAfterItsLoads();
        numbersTemporaryValuesOnInALaterRound();
        jumpGoesToTheLoadInFront();
        jumpGoesBehindTheStoreOfTheLineBefore();
        jumpToTheEndGoesToTheNewEnd();
        jumpStaysWhereNothingIsSpilled();
        comesTo48Lines();
        comesTo48LinesWithOneLoadForTwoUses();
        failsAt49Lines();
        failureLeavesNoResult();
        refusesOtherNumbersOfRegisters();
        takesOneRoundForNothing();
        linesIsNoneWithoutAResult();
        lineIsOutOfBoundsWithoutSuchALine();
        lineIsOutOfBoundsWithoutSuchAWhat();
        lineIs0WhereNothingStands();
        lineOfLoadAndStoreCameFromNone();
        slotsIsNoneWithoutAResult();
        joinedIsNoneWithoutAResult();
        joinedIsThatOfTheLastRound();
        DUE.finish();
    }

    /** "Two different values INTERFERE": were one its own neighbour, three at once were too many for three. */
    private static void twoDifferentValuesInterfere() {
        same("SET 0 1, SET 1 2, SET 2 3, OUT 0, OUT 0, OUT 1, OUT 2", 3, 1,
            "SET 2 1, SET 1 2, SET 0 3, OUT 2, OUT 2, OUT 1, OUT 0");
        same("SET 0 1, ADD 0 0 0, OUT 0", 3, 1, "SET 0 1, ADD 0 0 0, OUT 0");
    }

    /** "when a line defines one of them and the other one is live behind it", used or not. */
    private static void definitionWithoutUseInterferes() {
        same("SET 0 1, SET 1 2, OUT 0", 3, 1, "SET 1 1, SET 0 2, OUT 1");
    }

    /** The same sentence: what is used for the last time is not live behind. */
    private static void valueThatIsNotLiveBehindDoesNotInterfere() {
        same("SET 0 1, ADD 1 0 0, OUT 1", 3, 1, "SET 0 1, ADD 0 0 0, OUT 0");
        same("OUT 0, OUT 1, ADD 2 0 1", 3, 1, "OUT 0, OUT 0, ADD 0 0 0");
    }

    /** "unless that line is a MOVE from the other one to it". */
    private static void moveDoesNotInterfereWithWhatItMoves() {
        same("SET 0 1, MOVE 1 0, OUT 0, OUT 1", 3, 1, "SET 0 1, MOVE 0 0, OUT 0, OUT 0");
        same("SET 0 1, MOVE 1 0, MOVE 0 1, OUT 0, OUT 1", 3, 1, "SET 0 1, MOVE 0 0, MOVE 0 0, OUT 0, OUT 0");
    }

    /** The same: from the other one, not from a third one. */
    private static void moveInterferesWithOthers() {
        same("SET 2 9, SET 0 1, MOVE 1 0, OUT 1, OUT 2", 3, 1, "SET 0 9, SET 1 1, MOVE 1 1, OUT 1, OUT 0");
    }

    /** The same: that line alone does not make them interfere, another one does. */
    private static void otherLinesInterfereAllTheSame() {
        same("SET 0 1, MOVE 1 0, ADD 1 1 1, OUT 0, OUT 1", 3, 1, "SET 1 1, MOVE 0 1, ADD 0 0 0, OUT 1, OUT 0");
        same("SET 0 1, SET 1 2, MOVE 1 0, OUT 0, OUT 1", 3, 1, "SET 1 1, SET 0 2, MOVE 0 1, OUT 1, OUT 0");
    }

    /** "(as d, a or b where these are values)": were other numbers counted, 5 would weigh more than 6. */
    private static void numbersThatAreNoValuesDoNotStand() {
        same("SET 5 5, SET 6 5, SET 7 5, SET 8 5, JUMP 5, OUT 5, OUT 6, OUT 7, OUT 8", 3, 3,
            "SET 0 5, STORE 0 0, SET 0 5, STORE 0 1, SET 2 5, SET 1 5, JUMP 7, LOAD 0 0, OUT 0, LOAD 0 1, OUT 0, "
                + "OUT 2, OUT 1");
        SpillingColours x = Sources.of(0, 5, 5, 5, 0, 6, 5, 5, 0, 7, 5, 5, 0, 8, 5, 5, 5, 5, 5, 5, 7, 5, 5, 5,
            7, 5, 6, 5, 7, 5, 7, 5, 7, 5, 8, 5);
        x.allocate(3);
        DUE.number("the store behind the first line", x.line(1, 0), Sources.STORE);
    }

    /** "a group's number is the least of its values": 3 and 8 are taken off before 7. */
    private static void groupsNumberIsTheLeast() {
        same("MOVE 3 8, OUT 7", 3, 1, "MOVE 1 1, OUT 0");
        same("MOVE 8 3, OUT 7", 3, 1, "MOVE 1 1, OUT 0");
    }

    /** "whose d and a are in different groups". */
    private static void moveWithinAGroupIsNotJoined() {
        joins("SET 0 1, MOVE 0 0, OUT 0", 3, 0);
        joins("MOVE 1 0, MOVE 1 0, OUT 1", 3, 1);
        joins("MOVE 1 0, MOVE 0 1, OUT 0", 3, 1);
    }

    /** "that are not neighbours". */
    private static void neighboursAreNotJoined() {
        joins("SET 0 1, MOVE 1 0, SET 0 2, OUT 0, OUT 1", 3, 0);
        joins("SET 0 1, MOVE 1 0, SET 0 2, MOVE 2 1, OUT 0, OUT 2", 3, 1);
    }

    /** "would have fewer than K neighbours whose degree were K or more": 5 and 6 are such ones of 4 and 7. */
    private static void joinsWithFewerThanKHighNeighbours() {
        joins("SET 5 0, ADD 0 2 1, MOVE 7 4, OUT 6", 3, 1);
    }

    /** The same: 0, 2 and 6 are such ones of 4 and 5, as many as there are registers. */
    private static void doesNotJoinWithKHighNeighbours() {
        joins("SET 0 0, MOVE 4 5, MOVE 6 6, OUT 2", 3, 0);
        joins("SET 0 0, MOVE 4 5, MOVE 6 6, OUT 2", 4, 1);
    }

    /** "K or more": 0, 2, 4 and 6 would have three neighbours each if 5 and 7 were joined. */
    private static void degreeOfKIsHigh() {
        joins("SET 6 0, SET 2 0, MOVE 5 7, ADD 0 4 0", 3, 0);
        joins("SET 6 0, SET 2 0, MOVE 5 7, ADD 0 4 0", 4, 1);
    }

    /** "were K or more then": 1 and 3 have both 0 and 4 as neighbours, which would be one. */
    private static void degreeIsThatAfterTheJoining() {
        joins("SET 0 0, SET 6 0, MOVE 4 0, ADD 3 3 1", 3, 1);
    }

    /** "the first MOVE line in order": once 2 and 7 are joined, 3 is their neighbour. */
    private static void firstMoveIsJoinedFirst() {
        same("MOVE 2 7, MOVE 7 3", 3, 1, "MOVE 1 1, MOVE 1 0");
    }

    /** "and again, until there is none": 4 and 0 may be joined only when 5 and 2 have been. */
    private static void joinsAgainUntilThereIsNone() {
        joins("SET 2 0, MOVE 4 0, MOVE 5 2, ADD 1 3 1", 3, 2);
        joins("MOVE 1 0, MOVE 2 1, MOVE 3 2, MOVE 4 3, OUT 4", 3, 4);
        same("MOVE 0 5, MOVE 4 1, SET 1 0, ADD 0 2 3, MOVE 5 1", 3, 1,
            "MOVE 2 2, MOVE 1 1, SET 1 0, ADD 2 0 0, MOVE 2 1");
    }

    /** "the least whose degree among those that are left is less than K": all three have two neighbours. */
    private static void takesOffTheLeastBelowK() {
        same("SET 2 0, MOVE 5 7, MOVE 0 4", 3, 1, "SET 1 0, MOVE 0 0, MOVE 2 2");
    }

    /** The same: 3 has three neighbours, so 4 comes before it. */
    private static void doesNotTakeOffADegreeOfKFreely() {
        same("SET 3 0, ADD 4 9 4, OUT 5", 3, 1, "SET 1 0, ADD 2 0 2, OUT 0");
    }

    /** "among those that are left": when 0 is off, 3 has but two neighbours and comes before 4 and 6. */
    private static void takesOffByDegreeAmongThoseLeft() {
        same("ADD 3 4 0, BRANCH 6 0", 3, 1, "ADD 1 0 0, BRANCH 0 0");
    }

    /** "if there is none ... the one with the least WEIGHT": 1 and 3 stand there once, 0 and 2 twice. */
    private static void takesOffTheLeastWeight() {
        same("SET 0 0, SET 3 0, ADD 2 2 0, OUT 1", 3, 2, "SET 2 0, SET 0 0, ADD 1 1 2, LOAD 0 0, OUT 0");
    }

    /** "(how many times its values stand in the code, divided by ...)": 4 / 3 is less than 5 / 3. */
    private static void weightIsNotRounded() {
        SpillingColours x = Sources.read("SET 0 1, SET 1 2, SET 2 3, SET 3 4, ADD 0 0 0, ADD 1 1 1, ADD 2 2 2, "
            + "ADD 3 3 3, OUT 0, OUT 2, OUT 2, OUT 3, OUT 3");
        x.allocate(3);
        DUE.number("the slot of 0, stored by line 1", x.line(1, 2), 1);
        DUE.number("the slot of 1, stored by line 3", x.line(3, 2), 0);
    }

    /** "divided by its degree among those left": 8 stands there as often as 0 and has a neighbour more. */
    private static void weightIsDividedByTheDegreeAmongThoseLeft() {
        same("SET 8 0, ADD 3 5 3, SET 5 0, ADD 5 2 0", 3, 1, "SET 2 0, ADD 0 0 0, SET 0 0, ADD 0 1 1");
        // In the second round 6 has lost a neighbour when it is weighed, so 4 is the least of several.
        same("SET 6 0, ADD 2 5 4, MOVE 7 7, ADD 7 4 6", 3, 3,
            "SET 1 0, LOAD 0 1, ADD 0 2 0, STORE 0 0, MOVE 2 2, LOAD 0 1, ADD 2 0 1");
    }

    /** "of several the least": all four weigh the same, then the three of them that are no temporary ones. */
    private static void takesOffTheLeastOfEqualWeight() {
        SpillingColours x = Sources.fourAtOnce();
        DUE.number("allocate(3)", x.allocate(3), 3);
        DUE.text("0 and 1 are stored", Sources.written(x), "SET 0 1, STORE 0 0, SET 0 2, STORE 0 1, SET 2 3, SET 1 4, "
            + "LOAD 0 0, OUT 0, LOAD 0 1, OUT 0, OUT 2, OUT 1");
    }

    /** "of those without temporary values": were the temporary one for 3 taken, allocation would fail. */
    private static void doesNotTakeOffTemporaryValuesByWeight() {
        same("ADD 1 2 0, ADD 3 1 2, MOVE 0 0, ADD 2 1 2", 3, 3,
            "LOAD 0 1, ADD 2 1 0, ADD 0 2 1, STORE 0 0, LOAD 0 1, MOVE 0 0, STORE 0 1, ADD 1 2 1");
    }

    /** "the least register 0 .. K - 1 that no neighbour has got". */
    private static void givesTheLeastFreeRegister() {
        same("SET 0 1, SET 1 2, OUT 0, SET 2 3, OUT 1, OUT 2", 3, 1, "SET 0 1, SET 1 2, OUT 0, SET 0 3, OUT 1, OUT 0");
        for (int k = 3; k <= 6; k++) {
            SpillingColours x = new SpillingColours();
            for (int value = 0; value < k; value++) {
                Sources.put(x, "SET " + value + " 1");
            }
            for (int value = 0; value < k; value++) {
                Sources.put(x, "OUT " + value);
            }
            DUE.number("rounds for " + k + " at once", x.allocate(k), 1);
            DUE.number("the register that is given last", x.line(0, 1), k - 1);
            DUE.number("the register that is given first", x.line(k - 1, 1), 0);
        }
    }

    /** "if there is none, it is SPILLED": 1 is taken off by weight, but its three neighbours have two registers. */
    private static void givesARegisterWhereOneIsFreeAllTheSame() {
        same("SET 6 0, SET 1 0, MOVE 4 4, ADD 0 2 3", 3, 1, "SET 0 0, SET 0 0, MOVE 1 1, ADD 0 2 2");
    }

    /** "every spilled group, from the least on, gets the next SLOT (0, 1, ..)": 4 gets 0 and 9 gets 1. */
    private static void givesSlotsFromTheLeastOn() {
        same("SET 6 0, MOVE 3 3, MOVE 1 1, ADD 6 9 4", 3, 2,
            "SET 0 0, MOVE 1 1, MOVE 2 2, LOAD 1 1, LOAD 0 0, ADD 0 1 0");
    }

    /** The same over several rounds: the first spills 0, the second 1. */
    private static void givesTheNextSlotInALaterRound() {
        SpillingColours x = Sources.fourAtOnce();
        x.allocate(3);
        DUE.number("the slot of 0", x.line(1, 2), 0);
        DUE.number("the slot of 1", x.line(3, 2), 1);
        DUE.number("slots()", x.slots(), 2);
        x.allocate(3);
        DUE.number("the slot of 0 in another allocation", x.line(1, 2), 0);
        DUE.number("slots() of another allocation", x.slots(), 2);
    }

    /** "(a's before b's": 4 is in slot 0 and 6 in slot 1. */
    private static void loadsABeforeB() {
        same("SET 1 0, ADD 2 2 1, MOVE 7 7, ADD 7 4 6", 3, 2,
            "SET 2 0, ADD 1 1 2, MOVE 0 0, LOAD 1 0, LOAD 0 1, ADD 0 1 0");
        same("SET 1 0, ADD 2 2 1, MOVE 7 7, SUB 7 6 4", 3, 2,
            "SET 2 0, ADD 1 1 2, MOVE 0 0, LOAD 1 1, LOAD 0 0, SUB 0 1 0");
    }

    /** "once when it is used twice)". */
    private static void loadsOnceWhatIsUsedTwice() {
        same("SET 0 1, SET 1 2, SET 2 3, SET 3 4, OUT 1, OUT 2, OUT 3, OUT 1, OUT 2, OUT 3, ADD 4 0 0, OUT 4", 3, 2,
            "SET 0 1, STORE 0 0, SET 2 2, SET 1 3, SET 0 4, OUT 2, OUT 1, OUT 0, OUT 2, OUT 1, OUT 0, LOAD 0 0, "
                + "ADD 0 0 0, OUT 0");
    }

    /** "it defines a new temporary one (made after those of its loads), and a STORE ... comes behind". */
    private static void definesATemporaryMadeAfterItsLoads() {
        same("SET 2 0, MOVE 7 7, ADD 0 5 0, MOVE 1 1", 3, 3,
            "SET 0 0, STORE 0 0, MOVE 2 2, LOAD 0 1, ADD 0 1 0, STORE 0 1, MOVE 1 1");
    }

    /** "TEMPORARY ones, numbered on from 10": those of a later round are no earlier ones. */
    private static void numbersTemporaryValuesOnInALaterRound() {
        same("ADD 5 0 3, SET 2 0, ADD 1 5 1, OUT 0", 3, 3,
            "LOAD 0 1, ADD 2 0 1, SET 0 0, STORE 0 0, ADD 1 2 1, LOAD 0 1, OUT 0");
    }

    /** "What jumped to a line goes to the first of those that it became". */
    private static void jumpGoesToTheLoadInFront() {
        same("SET 0 1, SET 1 2, SET 2 3, SET 3 4, JUMP 5, OUT 0, OUT 1, OUT 2, OUT 3", 3, 3,
            "SET 0 1, STORE 0 0, SET 0 2, STORE 0 1, SET 2 3, SET 1 4, JUMP 7, LOAD 0 0, OUT 0, LOAD 0 1, OUT 0, "
                + "OUT 2, OUT 1");
    }

    /** The same: the STORE behind line 0 is none of those that line 1 became. */
    private static void jumpGoesBehindTheStoreOfTheLineBefore() {
        same("SET 0 1, SET 1 2, SET 2 3, SET 3 4, OUT 0, OUT 1, OUT 2, OUT 3, BRANCH 3 1", 3, 3,
            "SET 0 1, STORE 0 0, SET 0 2, STORE 0 1, SET 2 3, SET 1 4, LOAD 0 0, OUT 0, LOAD 0 1, OUT 0, OUT 2, OUT 1, "
                + "BRANCH 1 2");
    }

    /** "what jumped to the end to the number of lines that there are then", from every number that is the end. */
    private static void jumpToTheEndGoesToTheNewEnd() {
        for (int target = 9; target <= 16; target++) {
            same("SET 0 1, SET 1 2, SET 2 3, SET 3 4, OUT 0, OUT 1, OUT 2, BRANCH 3 " + target + ", OUT 3", 3, 3,
                "SET 0 1, STORE 0 0, SET 0 2, STORE 0 1, SET 2 3, SET 1 4, LOAD 0 0, OUT 0, LOAD 0 1, OUT 0, OUT 2, "
                    + "BRANCH 1 13, OUT 1");
        }
    }

    /** "When no group is spilled, allocation is DONE: d, a and b, where they are values, become ... registers". */
    private static void jumpStaysWhereNothingIsSpilled() {
        same("JUMP 16, OUT 7, BRANCH 7 3", 3, 1, "JUMP 16, OUT 0, BRANCH 0 3");
        same("JUMP 3, SET 9 9, OUT 9", 3, 1, "JUMP 3, SET 0 9, OUT 0");
    }

    /** "It FAILS when the code would have more than 48 lines": 48 are not more. */
    private static void comesTo48Lines() {
        SpillingColours x = Sources.justShortEnough();
        DUE.truth("allocate(3) of 48 lines is done", x.allocate(3) != NONE, true);
        DUE.number("lines()", x.lines(), 48);
        DUE.truth("accepts()", x.accepts(), true);
        DUE.number("the last line came from", x.line(47, 4), 15);
        DUE.thrown("line(48, 0)", IndexOutOfBoundsException.class, () -> x.line(48, 0));
    }

    /** The same: what is used twice is loaded once, so it makes one line and not two. */
    private static void comesTo48LinesWithOneLoadForTwoUses() {
        SpillingColours x = Sources.read("ADD 3 3 4, ADD 2 0 4, ADD 0 0 2, OUT 5, ADD 2 3 4, OUT 5, ADD 5 5 2, "
            + "ADD 1 5 1, ADD 0 0 4, ADD 2 0 0, ADD 3 3 1, ADD 3 4 2, ADD 4 0 2, ADD 5 0 0, ADD 1 4 5, ADD 0 2 2");
        DUE.truth("allocate(3) is done", x.allocate(3) != NONE, true);
        DUE.number("lines()", x.lines(), 48);
        DUE.number("the last line but one is a load", x.line(46, 0), 8);
        DUE.number("the one before is none", x.line(45, 0), Sources.STORE);
    }

    /** The same: 49 are. */
    private static void failsAt49Lines() {
        DUE.number("allocate(3) of 49 lines", Sources.tooLongByOne().allocate(3), NONE);
    }

    /** "NONE when it fails: there is no result then", also when there was one (promise 5). */
    private static void failureLeavesNoResult() {
        SpillingColours x = Sources.tooLongByOne();
        DUE.truth("allocate(6) is done", x.allocate(6) != NONE, true);
        DUE.number("lines() before the failure", x.lines(), 15);
        DUE.number("allocate(3)", x.allocate(3), NONE);
        DUE.noResult("behind a failure", x);
        DUE.truth("allocate(6) behind a failure is done", x.allocate(6) != NONE, true);
    }

    /** "IllegalArgumentException when k is not 3 .. 6." */
    private static void refusesOtherNumbersOfRegisters() {
        SpillingColours x = Sources.fourAtOnce();
        int[] wrong = {2, 7, 1, 0, -1, LEAST, GREATEST};
        for (int k : wrong) {
            DUE.thrown("allocate(" + k + ")", IllegalArgumentException.class, () -> x.allocate(k));
        }
        DUE.number("allocate(3)", x.allocate(3), 3);
        DUE.number("allocate(6)", x.allocate(6), 1);
    }

    /** "how many rounds it took; there is a result then": also without lines. */
    private static void takesOneRoundForNothing() {
        SpillingColours x = new SpillingColours();
        for (int k = 3; k <= 6; k++) {
            DUE.number("allocate(" + k + ")", x.allocate(k), 1);
        }
        DUE.number("lines()", x.lines(), 0);
        DUE.number("slots()", x.slots(), 0);
        DUE.number("joined()", x.joined(), 0);
        DUE.truth("accepts()", x.accepts(), true);
        DUE.truth("spoil(0, 1, 0)", x.spoil(0, 1, 0), false);
        DUE.thrown("line(0, 0)", IndexOutOfBoundsException.class, () -> x.line(0, 0));
        DUE.number("run(1)", x.run(1), 0);
        DUE.truth("ended()", x.ended(), true);
    }

    /** "NONE when there is none." (promise 6). */
    private static void linesIsNoneWithoutAResult() {
        SpillingColours x = Sources.fourAtOnce();
        DUE.number("lines() before allocate", x.lines(), NONE);
        x.allocate(3);
        DUE.number("lines() with three", x.lines(), 12);
        x.allocate(4);
        DUE.number("lines() with four", x.lines(), 8);
        x.clear();
        DUE.number("lines() behind clear", x.lines(), NONE);
    }

    /** "IndexOutOfBoundsException when there is no such line" (promise 7). */
    private static void lineIsOutOfBoundsWithoutSuchALine() {
        SpillingColours x = Sources.fourAtOnce();
        DUE.thrown("line(0, 0) before allocate", IndexOutOfBoundsException.class, () -> x.line(0, 0));
        x.allocate(3);
        int[] wrong = {-1, 12, 13, 48, LEAST, GREATEST};
        for (int i : wrong) {
            DUE.thrown("line(" + i + ", 0)", IndexOutOfBoundsException.class, () -> x.line(i, 0));
        }
        DUE.number("line(11, 0)", x.line(11, 0), 7);
        x.allocate(4);
        DUE.thrown("line(8, 0) of a shorter result", IndexOutOfBoundsException.class, () -> x.line(8, 0));
        DUE.number("line(7, 4)", x.line(7, 4), 7);
    }

    /** "or what." (promise 7). */
    private static void lineIsOutOfBoundsWithoutSuchAWhat() {
        SpillingColours x = Sources.fourAtOnce();
        x.allocate(3);
        int[] wrong = {-1, 5, LEAST, GREATEST};
        for (int what : wrong) {
            DUE.thrown("line(0, " + what + ")", IndexOutOfBoundsException.class, () -> x.line(0, what));
            DUE.thrown("line(1, " + what + ")", IndexOutOfBoundsException.class, () -> x.line(1, what));
            DUE.thrown("line(11, " + what + ")", IndexOutOfBoundsException.class, () -> x.line(11, what));
        }
    }

    /** "0 where nothing stands" (promise 7). */
    private static void lineIs0WhereNothingStands() {
        SpillingColours x = Sources.of(0, 1, 5, 7, 1, 1, 1, -7, 5, 9, 3, -9, 6, 9, 1, 4, 7, -9, 1, 9);
        x.allocate(3);
        DUE.text("the result", Sources.result(x), "0 0 5 0 0|1 0 0 0 1|5 0 3 0 2|6 0 0 4 3|7 0 0 0 4|");
        SpillingColours y = Sources.fourAtOnce();
        y.allocate(3);
        DUE.number("b of a store", y.line(3, 3), 0);
        DUE.number("b of a load", y.line(8, 3), 0);
    }

    /** "NONE for LOAD and STORE" (promise 7). */
    private static void lineOfLoadAndStoreCameFromNone() {
        SpillingColours x = Sources.fourAtOnce();
        x.allocate(3);
        int[] origins = {0, NONE, 1, NONE, 2, 3, NONE, 4, NONE, 5, 6, 7};
        for (int i = 0; i < origins.length; i++) {
            DUE.number("line(" + i + ", 4)", x.line(i, 4), origins[i]);
        }
    }

    /** "NONE when there is none." (promise 8). */
    private static void slotsIsNoneWithoutAResult() {
        SpillingColours x = Sources.fourAtOnce();
        DUE.number("slots() before allocate", x.slots(), NONE);
        x.allocate(3);
        DUE.number("slots() with three", x.slots(), 2);
        x.allocate(4);
        DUE.number("slots() with four", x.slots(), 0);
        x.clear();
        DUE.number("slots() behind clear", x.slots(), NONE);
    }

    /** "NONE when there is no result." (promise 9). */
    private static void joinedIsNoneWithoutAResult() {
        SpillingColours x = Sources.read("MOVE 1 0, OUT 1");
        DUE.number("joined() before allocate", x.joined(), NONE);
        x.allocate(3);
        DUE.number("joined()", x.joined(), 1);
        x.allocate(3);
        DUE.number("joined() of another allocation", x.joined(), 1);
        x.clear();
        DUE.number("joined() behind clear", x.joined(), NONE);
    }

    /** "in the last round of the latest allocation that was done" (promise 9): all four rounds have three. */
    private static void joinedIsThatOfTheLastRound() {
        SpillingColours x = Sources.read("MOVE 4 0, ADD 1 1 6, SET 5 0, ADD 3 5 4, ADD 3 6 1");
        DUE.number("allocate(3)", x.allocate(3), 4);
        DUE.number("joined()", x.joined(), 1);
    }

    private static void same(String lines, int k, int rounds, String want) {
        SpillingColours x = Sources.read(lines);
        String call = lines + ": allocate(" + k + ")";
        DUE.number(call, x.allocate(k), rounds);
        DUE.text(call + ": the result", Sources.written(x), want);
        DUE.truth(call + ": accepts()", x.accepts(), true);
    }

    private static void joins(String lines, int k, int want) {
        SpillingColours x = Sources.read(lines);
        String call = lines + ": allocate(" + k + ")";
        DUE.number(call, x.allocate(k), 1);
        DUE.number(call + ": joined()", x.joined(), want);
    }
}
