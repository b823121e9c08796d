/** The sentences on running (Terms; promises 12 to 14) that name a boundary case, each with a test of its own. */
final class RunEdgesTest {
    private static final Due DUE = new Due();
    private static final int LEAST = Integer.MIN_VALUE;
    private static final int GREATEST = Integer.MAX_VALUE;

    public static void main(String[] args) {
        addWraps();
        subWraps();
        lessComparesWhatIsFarApart();
        lessIs0ForEqualNumbers();
        branchGoesWhenNot0();
        codeEndsBehindTheLastLine();
        codeEndsAtTheNumberOfLines();
        codeEndsBeyondTheNumberOfLines();
        codeWithoutLinesEndsAtOnce();
        valuesAre0AtFirst();
        registersAre0AtFirst();
        slotsAre0AtFirst();
        the200thLineRuns();
        the201stLineDoesNot();
        endBehindThe200thLineIsComeTo();
        loadsAndStoresDoNotCount();
        storeBehindThe200thLineRuns();
        answersHowManyWerePutOut();
        runRefusesOtherCodes();
        runOfTheResultNeedsOne();
        runThatIsWrongBesidesIsAWrongArgument();
        shownKeepsTheFirst20();
        shownIsOutOfBoundsBeyondTheCount();
        shownIsOutOfBoundsBelow0();
        shownIsOutOfBoundsWithoutARun();
        shownIsThatOfTheLatestRun();
        endedIsFalseWithoutARun();
        endedIsFalseWhenTheRunWasCutOff();
        endedIsThatOfTheLatestRun();
        latestRunStaysWhateverIsDone();
        DUE.finish();
    }

    /** "ints that wrap", "ADD: d becomes a + b". */
    private static void addWraps() {
        both("SET 0 " + GREATEST + ", SET 1 1, ADD 2 0 1, ADD 3 0 0, OUT 2, OUT 3", 2, LEAST + " -2 ", true);
        both("SET 0 " + LEAST + ", SET 1 -1, ADD 2 0 1, ADD 3 0 0, OUT 2, OUT 3", 2, GREATEST + " 0 ", true);
    }

    /** "ints that wrap", "SUB: d becomes a - b". */
    private static void subWraps() {
        both("SET 0 " + LEAST + ", SET 1 1, SUB 2 0 1, OUT 2", 1, GREATEST + " ", true);
        both("SET 0 " + GREATEST + ", SET 1 -1, SUB 2 0 1, OUT 2", 1, LEAST + " ", true);
        both("SET 0 " + LEAST + ", SUB 2 1 0, OUT 2", 1, LEAST + " ", true);
    }

    /** "LESS: d becomes 1 when a is less than b", also where a - b wraps. */
    private static void lessComparesWhatIsFarApart() {
        both("SET 0 " + LEAST + ", SET 1 " + GREATEST + ", LESS 2 0 1, LESS 3 1 0, OUT 2, OUT 3", 2, "1 0 ", true);
        both("SET 0 " + GREATEST + ", SET 1 -1, LESS 2 0 1, LESS 3 1 0, OUT 2, OUT 3", 2, "0 1 ", true);
        both("SET 0 7, SET 1 8, LESS 2 0 1, LESS 3 1 0, OUT 2, OUT 3", 2, "1 0 ", true);
    }

    /** "otherwise 0". */
    private static void lessIs0ForEqualNumbers() {
        both("SET 0 7, SET 1 7, LESS 2 0 1, OUT 2, LESS 0 0 0, OUT 0", 2, "0 0 ", true);
    }

    /** "BRANCH: to line b when a is not 0". */
    private static void branchGoesWhenNot0() {
        int[] numbers = {1, -1, 2, 256, LEAST, GREATEST};
        for (int number : numbers) {
            both("SET 0 " + number + ", BRANCH 0 3, OUT 0, OUT 1", 1, "0 ", true);
        }
        both("SET 0 0, BRANCH 0 3, OUT 0, OUT 1", 2, "0 0 ", true);
    }

    /** "behind the last line ... the code ENDS". */
    private static void codeEndsBehindTheLastLine() {
        both("OUT 0", 1, "0 ", true);
        both("BRANCH 0 0", 0, "", true);
    }

    /** "and at a line's number that is that of the lines ... the code ENDS". */
    private static void codeEndsAtTheNumberOfLines() {
        both("JUMP 2, OUT 0", 0, "", true);
        both("SET 0 1, BRANCH 0 3, OUT 0", 0, "", true);
        both("JUMP 1, OUT 0", 1, "0 ", true);
    }

    /** "or more, the code ENDS". */
    private static void codeEndsBeyondTheNumberOfLines() {
        both("JUMP 3, OUT 0", 0, "", true);
        both("JUMP 16, OUT 0", 0, "", true);
        both("SET 0 1, BRANCH 0 16, OUT 0", 0, "", true);
    }

    /** The same where there are no lines. */
    private static void codeWithoutLinesEndsAtOnce() {
        SpillingColours x = new SpillingColours();
        x.allocate(3);
        for (int code = 0; code <= 1; code++) {
            DUE.number("run(" + code + ")", x.run(code), 0);
            DUE.truth("ended()", x.ended(), true);
        }
    }

    /** "values ... being 0 at first", in every run. */
    private static void valuesAre0AtFirst() {
        for (int value = 0; value <= 9; value++) {
            SpillingColours x = Sources.read("OUT " + value + ", SET " + value + " 5, OUT " + value);
            for (int time = 0; time < 2; time++) {
                DUE.number("run(0)", x.run(0), 2);
                DUE.text("shown", Sources.shown(x, 2), "0 5 ");
            }
        }
    }

    /** "or registers ... being 0 at first", in every run, also where a spoilt line reads one that nothing sets. */
    private static void registersAre0AtFirst() {
        for (int register = 0; register < 6; register++) {
            SpillingColours x = Sources.read("OUT 0, SET 0 5, OUT 0");
            x.allocate(6);
            x.spoil(0, 2, register);
            x.spoil(1, 1, register);
            x.spoil(2, 2, register);
            for (int time = 0; time < 2; time++) {
                x.run(0);
                DUE.number("run(1)", x.run(1), 2);
                DUE.text("shown", Sources.shown(x, 2), "0 5 ");
            }
        }
    }

    /** "and slots, being 0 at first", in every run: value 0 is loaded before it is stored. */
    private static void slotsAre0AtFirst() {
        SpillingColours x = Sources.read("OUT 0, SET 0 1, SET 1 2, SET 2 3, SET 3 4, OUT 0, OUT 1, OUT 1, OUT 2, "
            + "OUT 2, OUT 3, OUT 3");
        x.allocate(3);
        DUE.number("the first line is a load", x.line(0, 0), 8);
        for (int time = 0; time < 2; time++) {
            DUE.number("run(1)", x.run(1), 8);
            DUE.text("shown", Sources.shown(x, 8), "0 1 2 2 3 3 4 4 ");
        }
    }

    /** "until ... the next line would be the 201st": the OUT is the 200th. */
    private static void the200thLineRuns() {
        both("SET 0 98, SET 1 1, SET 2 7, SUB 0 0 1, BRANCH 0 3, OUT 2", 1, "7 ", true);
        both("OUT 0, JUMP 0", 100, null, false);
        both("JUMP 1, OUT 0, JUMP 1", 100, null, false);
    }

    /** The same: the OUT would be the 201st. */
    private static void the201stLineDoesNot() {
        both("SET 0 98, SET 1 1, SET 2 7, SET 3 1, SUB 0 0 1, BRANCH 0 4, OUT 2", 0, "", false);
    }

    /** The same: behind the 200th line there is no next one. */
    private static void endBehindThe200thLineIsComeTo() {
        both("SET 0 99, SET 1 1, SUB 0 0 1, BRANCH 0 2", 0, "", true);
        both("SET 0 98, SET 1 1, SET 2 7, SUB 0 0 1, BRANCH 0 3, JUMP 16, OUT 2", 0, "", true);
        both("SET 0 99, SET 1 1, SUB 0 0 1, BRANCH 0 2, JUMP 16, OUT 2", 0, "", false);
    }

    /** "(LOAD and STORE lines do not count)": 22 times nine lines and two more. */
    private static void loadsAndStoresDoNotCount() {
        SpillingColours x = Sources.read("SET 0 1, SET 1 2, SET 2 3, SET 3 4, OUT 0, OUT 1, OUT 2, OUT 3, JUMP 0");
        x.allocate(3);
        DUE.number("lines()", x.lines(), 13);
        DUE.number("run(0)", x.run(0), 88);
        DUE.number("run(1)", x.run(1), 88);
        DUE.text("shown", Sources.shown(x, 20), "1 2 3 4 1 2 3 4 1 2 3 4 1 2 3 4 1 2 3 4 ");
        DUE.truth("ended()", x.ended(), false);
    }

    /** The same: the next line is a STORE, which would not be the 201st, and behind it the code ends. */
    private static void storeBehindThe200thLineRuns() {
        SpillingColours x = storingLast(93);
        DUE.truth("allocate(3)", x.allocate(3) > 1, true);
        DUE.number("the op of the last line", x.line(x.lines() - 1, 0), Sources.STORE);
        DUE.number("run(1)", x.run(1), 8);
        DUE.truth("ended() with a STORE behind the 200th line", x.ended(), true);
        SpillingColours y = storingLast(94);
        y.allocate(3);
        DUE.number("run(1)", y.run(1), 7);
        DUE.truth("ended() with two lines more", y.ended(), false);
    }

    private static SpillingColours storingLast(int times) {
        return Sources.read("SET 0 " + times + ", SET 1 1, SET 2 12, SET 3 13, SET 4 14, SUB 0 0 1, BRANCH 0 5, "
            + "OUT 2, OUT 3, OUT 3, OUT 3, OUT 3, OUT 4, OUT 4, OUT 4, SET 2 7");
    }

    /** "Answers how many numbers were put out": all of them, not those alone that are kept. */
    private static void answersHowManyWerePutOut() {
        int[] counts = {1, 19, 20, 21, 66};
        for (int count : counts) {
            DUE.number("run(0) of " + count, puttingOut(count).run(0), count);
        }
        DUE.number("run(0) of none", Sources.read("SET 0 1").run(0), 0);
    }

    /** Puts out count, count - 1, and so on to 1. */
    private static SpillingColours puttingOut(int count) {
        return Sources.read("SET 0 " + count + ", SET 1 1, OUT 0, SUB 0 0 1, BRANCH 0 2");
    }

    /** "IllegalArgumentException when code is another number" (promise 12). */
    private static void runRefusesOtherCodes() {
        SpillingColours x = Sources.read("OUT 0");
        x.allocate(3);
        int[] wrong = {-1, 2, 3, LEAST, GREATEST};
        for (int code : wrong) {
            DUE.thrown("run(" + code + ")", IllegalArgumentException.class, () -> x.run(code));
        }
        DUE.number("run(0)", x.run(0), 1);
        DUE.number("run(1)", x.run(1), 1);
    }

    /** "IllegalStateException when there is no result" (promise 12). */
    private static void runOfTheResultNeedsOne() {
        SpillingColours x = new SpillingColours();
        DUE.thrown("run(1) of a new object", IllegalStateException.class, () -> x.run(1));
        DUE.number("run(0) of a new object", x.run(0), 0);
        Sources.put(x, "OUT 0");
        DUE.thrown("run(1) before allocate", IllegalStateException.class, () -> x.run(1));
        DUE.number("run(0) before allocate", x.run(0), 1);
        x.allocate(3);
        DUE.number("run(1)", x.run(1), 1);
        Sources.put(x, "OUT 0");
        DUE.thrown("run(1) behind put", IllegalStateException.class, () -> x.run(1));
    }

    /** Both sentences at once: without a result another number is a wrong argument still. */
    private static void runThatIsWrongBesidesIsAWrongArgument() {
        SpillingColours x = new SpillingColours();
        DUE.thrown("run(2) without a result", IllegalArgumentException.class, () -> x.run(2));
        DUE.thrown("run(-1) without a result", IllegalArgumentException.class, () -> x.run(-1));
    }

    /** "only the first 20 are kept" (promise 13). */
    private static void shownKeepsTheFirst20() {
        int[] counts = {20, 21, 66};
        for (int count : counts) {
            SpillingColours x = puttingOut(count);
            x.run(0);
            DUE.number("shown(0) of " + count, x.shown(0), count);
            DUE.number("shown(19) of " + count, x.shown(19), count - 19);
            DUE.thrown("shown(20) of " + count, IndexOutOfBoundsException.class, () -> x.shown(20));
            DUE.thrown("shown(65) of " + count, IndexOutOfBoundsException.class, () -> x.shown(65));
        }
    }

    /** "IndexOutOfBoundsException when there is none." (promise 13). */
    private static void shownIsOutOfBoundsBeyondTheCount() {
        SpillingColours x = puttingOut(19);
        x.run(0);
        DUE.number("shown(18) of 19", x.shown(18), 1);
        int[] wrong = {19, 20, GREATEST};
        for (int k : wrong) {
            DUE.thrown("shown(" + k + ") of 19", IndexOutOfBoundsException.class, () -> x.shown(k));
        }
        SpillingColours y = Sources.read("SET 0 1");
        y.run(0);
        DUE.thrown("shown(0) of none", IndexOutOfBoundsException.class, () -> y.shown(0));
    }

    /** The same: numbers are counted "from 0". */
    private static void shownIsOutOfBoundsBelow0() {
        SpillingColours x = puttingOut(3);
        x.run(0);
        DUE.thrown("shown(-1)", IndexOutOfBoundsException.class, () -> x.shown(-1));
        DUE.thrown("shown of the least number", IndexOutOfBoundsException.class, () -> x.shown(LEAST));
    }

    /** The same where nothing has been run. */
    private static void shownIsOutOfBoundsWithoutARun() {
        SpillingColours x = Sources.read("OUT 0");
        x.allocate(3);
        DUE.thrown("shown(0) before a run", IndexOutOfBoundsException.class, () -> x.shown(0));
    }

    /** "that the latest run put out" (promise 13): nothing of a longer one before it. */
    private static void shownIsThatOfTheLatestRun() {
        SpillingColours x = puttingOut(5);
        x.run(0);
        x.clear();
        Sources.put(x, "OUT 7");
        x.run(0);
        DUE.number("shown(0)", x.shown(0), 0);
        DUE.thrown("shown(1)", IndexOutOfBoundsException.class, () -> x.shown(1));
        x.clear();
        x.run(0);
        DUE.thrown("shown(0) of nothing", IndexOutOfBoundsException.class, () -> x.shown(0));
    }

    /** "false when there was none." (promise 14). */
    private static void endedIsFalseWithoutARun() {
        SpillingColours x = new SpillingColours();
        DUE.truth("ended() of a new object", x.ended(), false);
        Sources.put(x, "OUT 0");
        x.allocate(3);
        x.accepts();
        DUE.truth("ended() before a run", x.ended(), false);
        x.clear();
        DUE.thrown("run(1)", IllegalStateException.class, () -> x.run(1));
        DUE.truth("ended() behind a refused run", x.ended(), false);
    }

    /** "Whether the latest run ... came to the end of the code" (promise 14). */
    private static void endedIsFalseWhenTheRunWasCutOff() {
        both("JUMP 0", 0, "", false);
        both("SET 0 1, BRANCH 0 1", 0, "", false);
    }

    /** "the latest run" (promise 14). */
    private static void endedIsThatOfTheLatestRun() {
        SpillingColours x = Sources.read("JUMP 0");
        x.run(0);
        DUE.truth("ended() of an endless run", x.ended(), false);
        x.clear();
        DUE.truth("ended() behind clear", x.ended(), false);
        x.run(0);
        DUE.truth("ended() of a run that ends", x.ended(), true);
        Sources.put(x, "JUMP 0");
        DUE.truth("ended() behind put", x.ended(), true);
        x.run(0);
        DUE.truth("ended() of an endless run again", x.ended(), false);
    }

    /** "(whatever was done since, so also for shown())" (promise 14). */
    private static void latestRunStaysWhateverIsDone() {
        SpillingColours x = Sources.tooLongByOne();
        Sources.put(x, "OUT 9");
        x.run(0);
        stays(x, "run");
        x.allocate(6);
        stays(x, "allocate");
        x.spoil(0, 1, 0);
        stays(x, "spoil");
        x.accepts();
        stays(x, "accepts");
        x.live(0, 0);
        stays(x, "live");
        DUE.number("allocate(3)", x.allocate(3), SpillingColours.NONE);
        stays(x, "allocate that failed");
        x.clear();
        stays(x, "clear");
        Sources.put(x, "JUMP 0");
        stays(x, "put");
        DUE.thrown("run(1)", IllegalStateException.class, () -> x.run(1));
        stays(x, "a refused run");
    }

    private static void stays(SpillingColours x, String call) {
        DUE.truth("ended() behind " + call, x.ended(), true);
        DUE.text("shown behind " + call, Sources.shown(x, 2), "0 0 ");
        DUE.thrown("shown(2) behind " + call, IndexOutOfBoundsException.class, () -> x.shown(2));
    }

    /** The source and, with every number of registers, the result: both must come to the same. */
    private static void both(String lines, int count, String shown, boolean ended) {
        SpillingColours x = Sources.read(lines);
        same(lines + ": run(0)", x, 0, count, shown, ended);
        for (int k = 3; k <= 6; k++) {
            DUE.truth(lines + ": allocate(" + k + ") is done", x.allocate(k) != SpillingColours.NONE, true);
            same(lines + ": run(1) with " + k, x, 1, count, shown, ended);
        }
    }

    private static void same(String call, SpillingColours x, int code, int count, String shown, boolean ended) {
        DUE.number(call, x.run(code), count);
        if (shown != null) {
            DUE.text(call + ": shown", Sources.shown(x, count), shown);
        }
        DUE.truth(call + ": ended()", x.ended(), ended);
    }
}
