/** The sentences on the source (Terms; promises 1 to 4) that name a boundary case, each with a test of its own. */
final class SourceEdgesTest {
    private static final Due DUE = new Due();
    private static final int LEAST = Integer.MIN_VALUE;
    private static final int GREATEST = Integer.MAX_VALUE;

    /** Op and column (1 d, 2 a, 3 b) of every number that is a value. */
    private static final int[][] VALUES = {
        {0, 1}, {1, 1}, {1, 2}, {2, 1}, {2, 2}, {2, 3}, {3, 1}, {3, 2}, {3, 3}, {4, 1}, {4, 2}, {4, 3}, {6, 2}, {7, 2},
    };
    /** Op and column of every number that is the number of a line. */
    private static final int[][] TARGETS = {{5, 2}, {6, 3}};
    /** Op and column of every number that means nothing. */
    private static final int[][] WITHOUT_MEANING = {{0, 3}, {1, 3}, {5, 1}, {5, 3}, {6, 1}, {7, 1}, {7, 3}};

    public static void main(String[] args) {
        sourceHasAtMost16LinesFrom0();
        valuesAre0To9();
        codeEndsBehindTheLastLine();
        codeEndsAtTheNumberOfLines();
        codeEndsBeyondTheNumberOfLines();
        endIsWhereTheLinesAreNow();
        lineItselfDoesNotCount();
        lineItselfCountsWhenItIsComeToAgain();
        noLineBeforeTheUseDefines();
        lineThatUsesAndDefinesIsAUse();
        oneWayWithoutDefinitionIsEnough();
        newObjectHasNothing();
        putAnswersHowManyThereAre();
        putLeavesNoResult();
        putRefusesOtherOps();
        putRefusesOtherValues();
        putRefusesOtherLineNumbers();
        putTakesEveryNumberToSet();
        putRefusesThe17th();
        putThatIsWrongBesidesIsAWrongArgument();
        putTakesWhatMeansNothingAs0();
        clearAnswersHowManyThereWere();
        clearLeavesNoResult();
        liveIsFalseWithoutSuchALine();
        liveIsFalseWithoutSuchAValue();
        DUE.finish();
    }

    /** "THE SOURCE has at most 16 LINES, numbered from 0". */
    private static void sourceHasAtMost16LinesFrom0() {
        SpillingColours x = Sources.full();
        DUE.truth("live(14, 0), used in line 15", x.live(14, 0), true);
        DUE.number("run(0) with an OUT as line 15", x.run(0), 1);
        DUE.number("shown(0)", x.shown(0), 15);
        x.allocate(3);
        DUE.number("lines()", x.lines(), 16);
        DUE.number("the first line came from", x.line(0, 4), 0);
        DUE.number("the last line came from", x.line(15, 4), 15);
    }

    /** "over the VALUES 0 .. 9". */
    private static void valuesAre0To9() {
        SpillingColours x = Sources.read("SET 0 4, SET 9 5, OUT 9, OUT 0");
        DUE.text("live values", Sources.liveBehind(x, 1), "0 9 ");
        DUE.number("run(0)", x.run(0), 2);
        DUE.text("shown", Sources.shown(x, 2), "5 4 ");
    }

    /** "behind the last line ... the code ENDS". */
    private static void codeEndsBehindTheLastLine() {
        DUE.text("live", Sources.liveBehind(Sources.read("OUT 1, SET 0 1"), 1), "");
        DUE.text("live behind a branch", Sources.liveBehind(Sources.read("OUT 1, BRANCH 0 2"), 1), "");
    }

    /** "and at a line's number that is that of the lines ... the code ENDS". */
    private static void codeEndsAtTheNumberOfLines() {
        DUE.text("live before a jump to 2 of 2", Sources.liveBehind(Sources.read("JUMP 2, OUT 1"), 0), "");
        DUE.text("live before a jump to 1 of 2", Sources.liveBehind(Sources.read("JUMP 1, OUT 1"), 0), "1 ");
        SpillingColours x = Sources.full();
        x.clear();
        Sources.put(x, "JUMP 15");
        for (int i = 1; i < 15; i++) {
            Sources.put(x, "SET 1 1");
        }
        DUE.truth("live before a jump to 15 of 15", x.live(0, 9), false);
        Sources.put(x, "OUT 9");
        DUE.truth("live before a jump to 15 of 16", x.live(0, 9), true);
    }

    /** "or more, the code ENDS". */
    private static void codeEndsBeyondTheNumberOfLines() {
        DUE.text("live before a jump to 3 of 2", Sources.liveBehind(Sources.read("JUMP 3, OUT 1"), 0), "");
        DUE.text("live before a jump to 16 of 2", Sources.liveBehind(Sources.read("JUMP 16, OUT 1"), 0), "");
        DUE.text("live before a branch to 16 of 1", Sources.liveBehind(Sources.read("BRANCH 0 16"), 0), "");
        DUE.text("live before a branch to 16 of 2", Sources.liveBehind(Sources.read("BRANCH 0 16, OUT 1"), 0), "1 ");
    }

    /** The same sentence: a line's number is the end only as long as there is no such line. */
    private static void endIsWhereTheLinesAreNow() {
        SpillingColours x = Sources.read("JUMP 2, OUT 1");
        DUE.truth("live(0, 3) while line 2 is the end", x.live(0, 3), false);
        DUE.number("run(0) while line 2 is the end", x.run(0), 0);
        Sources.put(x, "OUT 3");
        DUE.truth("live(0, 3) once line 2 is there", x.live(0, 3), true);
        DUE.number("run(0) once line 2 is there", x.run(0), 1);
        x.clear();
        Sources.put(x, "JUMP 2");
        DUE.truth("live(0, 3) when the lines are gone", x.live(0, 3), false);
        DUE.number("run(0) when the lines are gone", x.run(0), 0);
    }

    /** "(the line itself does not count)". */
    private static void lineItselfDoesNotCount() {
        DUE.truth("live behind its only use", Sources.read("OUT 3").live(0, 3), false);
        DUE.truth("live behind its use and definition", Sources.read("ADD 3 3 3").live(0, 3), false);
        DUE.truth("live behind its definition", Sources.read("SET 3 1, OUT 3").live(0, 3), true);
    }

    /** "a way of lines following one another": it may come to the line itself again. */
    private static void lineItselfCountsWhenItIsComeToAgain() {
        DUE.truth("live behind a branch to itself", Sources.read("BRANCH 3 0").live(0, 3), true);
        DUE.truth("live round a loop", Sources.read("OUT 3, JUMP 0").live(0, 3), true);
        DUE.truth("live round a loop of jumps", Sources.read("JUMP 0").live(0, 3), false);
        DUE.truth("defined each time round", Sources.read("SET 3 1, OUT 3, JUMP 0").live(1, 3), false);
    }

    /** "none of the lines before that one on the way defining it". */
    private static void noLineBeforeTheUseDefines() {
        SpillingColours x = Sources.read("OUT 2, SET 1 5, OUT 1");
        DUE.truth("live(0, 1) with a definition between", x.live(0, 1), false);
        DUE.truth("live(1, 1) with none", x.live(1, 1), true);
        String[] definitions = {"SET 1 5", "MOVE 1 2", "ADD 1 2 2", "SUB 1 2 2", "LESS 1 2 2"};
        for (String definition : definitions) {
            SpillingColours y = Sources.read("OUT 2, " + definition + ", OUT 1");
            DUE.truth("live(0, 1) before " + definition, y.live(0, 1), false);
        }
    }

    /** "to one that uses it": what that one itself defines does not matter. */
    private static void lineThatUsesAndDefinesIsAUse() {
        String[] uses = {"MOVE 1 1", "ADD 1 1 2", "ADD 1 2 1", "SUB 1 2 1", "LESS 1 1 2", "BRANCH 1 0", "OUT 1"};
        for (String use : uses) {
            DUE.truth("live(0, 1) before " + use, Sources.read("OUT 2, " + use).live(0, 1), true);
        }
        String[] others = {"SET 2 1", "JUMP 1", "BRANCH 2 1", "MOVE 2 2"};
        for (String other : others) {
            DUE.truth("live(0, 1) before " + other, Sources.read("OUT 2, " + other).live(0, 1), false);
        }
    }

    /** "there is a way": one is enough, whatever the others do. */
    private static void oneWayWithoutDefinitionIsEnough() {
        DUE.truth("one way defines", Sources.read("BRANCH 0 2, SET 1 5, OUT 1").live(0, 1), true);
        DUE.truth("every way defines", Sources.read("BRANCH 0 2, JUMP 2, SET 1 5, OUT 1").live(0, 1), false);
        DUE.truth("one way ends", Sources.read("BRANCH 0 9, OUT 1").live(0, 1), true);
        DUE.truth("the only way goes past it", Sources.read("JUMP 2, OUT 1, OUT 0").live(0, 1), false);
    }

    /** "No lines, no result." (promise 1). */
    private static void newObjectHasNothing() {
        SpillingColours x = new SpillingColours();
        DUE.noResult("of a new object", x);
        DUE.text("live in a new object", Sources.live(x), "||||||||||||||||");
        DUE.truth("new ended()", x.ended(), false);
        DUE.thrown("new shown(0)", IndexOutOfBoundsException.class, () -> x.shown(0));
        DUE.number("new run(0)", x.run(0), 0);
        DUE.number("new clear()", x.clear(), 0);
    }

    /** "Puts a line behind the others: how many there are then." */
    private static void putAnswersHowManyThereAre() {
        SpillingColours x = new SpillingColours();
        for (int count = 1; count <= 16; count++) {
            DUE.number("put of line " + (count - 1), Sources.put(x, "OUT 0"), count);
        }
        x.clear();
        DUE.number("put behind clear", Sources.put(x, "OUT 0"), 1);
    }

    /** "There is no result any more." */
    private static void putLeavesNoResult() {
        SpillingColours x = new SpillingColours();
        x.allocate(3);
        Sources.put(x, "OUT 0");
        DUE.noResult("behind the first put", x);
        x.allocate(3);
        Sources.put(x, "OUT 0");
        DUE.noResult("behind the second put", x);
    }

    /** "IllegalArgumentException when op is not 0 .. 7". */
    private static void putRefusesOtherOps() {
        SpillingColours x = new SpillingColours();
        int[] wrong = {-1, 8, 9, 10, LEAST, GREATEST};
        for (int op : wrong) {
            DUE.thrown("put(" + op + ", 0, 0, 0)", IllegalArgumentException.class, () -> x.put(op, 0, 0, 0));
        }
        DUE.number("put(0, 0, 0, 0)", x.put(0, 0, 0, 0), 1);
        DUE.number("put(7, 0, 0, 0)", x.put(7, 0, 0, 0), 2);
    }

    /** "a value not 0 .. 9". */
    private static void putRefusesOtherValues() {
        SpillingColours x = new SpillingColours();
        int[] wrong = {-1, 10, LEAST, GREATEST};
        for (int[] where : VALUES) {
            for (int number : wrong) {
                refused(x, where, number);
            }
            taken(x, where, 0);
            taken(x, where, 9);
        }
        DUE.number("lines that wrong calls put", x.clear(), 0);
    }

    /** "or a line's number (a of JUMP, b of BRANCH) not 0 .. 16". */
    private static void putRefusesOtherLineNumbers() {
        SpillingColours x = new SpillingColours();
        int[] wrong = {-1, 17, LEAST, GREATEST};
        for (int[] where : TARGETS) {
            for (int number : wrong) {
                refused(x, where, number);
            }
            taken(x, where, 0);
            taken(x, where, 10);
            taken(x, where, 16);
        }
        DUE.number("lines that wrong calls put", x.clear(), 0);
    }

    /** "SET: d becomes the number a": no number is refused. */
    private static void putTakesEveryNumberToSet() {
        int[] numbers = {-1, 10, 17, LEAST, GREATEST};
        for (int number : numbers) {
            SpillingColours x = Sources.of(0, 0, number, 0, 7, 0, 0, 0);
            x.allocate(3);
            DUE.number("line(0, 2) of SET " + number, x.line(0, 2), number);
            x.run(0);
            DUE.number("shown(0) of SET " + number, x.shown(0), number);
        }
    }

    /** "IllegalStateException when there are 16." */
    private static void putRefusesThe17th() {
        SpillingColours x = Sources.full();
        for (int op = 0; op <= 7; op++) {
            int wanted = op;
            DUE.thrown("the 17th put", IllegalStateException.class, () -> x.put(wanted, 0, 0, 0));
        }
        DUE.number("clear() behind refused puts", x.clear(), 16);
        DUE.number("put behind clear", x.put(7, 0, 0, 0), 1);
    }

    /** Both of these sentences at once: what the document names first is thrown. */
    private static void putThatIsWrongBesidesIsAWrongArgument() {
        SpillingColours x = Sources.full();
        DUE.thrown("the 17th put, with op 8", IllegalArgumentException.class, () -> x.put(8, 0, 0, 0));
        DUE.thrown("the 17th put, with value 10", IllegalArgumentException.class, () -> x.put(0, 10, 0, 0));
        DUE.thrown("the 17th put, with line 17", IllegalArgumentException.class, () -> x.put(5, 0, 17, 0));
    }

    /** "(Numbers that mean nothing are taken as 0.)" */
    private static void putTakesWhatMeansNothingAs0() {
        int[] numbers = {-1, 5, 10, 17, LEAST, GREATEST};
        for (int[] where : WITHOUT_MEANING) {
            for (int number : numbers) {
                SpillingColours x = new SpillingColours();
                taken(x, where, number);
                putWith(x, where, number);
                x.allocate(3);
                DUE.number("line(0, " + where[1] + ") of op " + where[0], x.line(0, where[1]), 0);
            }
        }
    }

    /** "how many lines there were" (promise 3). */
    private static void clearAnswersHowManyThereWere() {
        SpillingColours x = Sources.full();
        DUE.number("clear() of 16", x.clear(), 16);
        DUE.number("clear() of none", x.clear(), 0);
        Sources.put(x, "OUT 0");
        DUE.number("clear() of one", x.clear(), 1);
        DUE.number("run(0) of what is left", x.run(0), 0);
    }

    /** "No lines, no result" (promise 3), also when the result had no lines. */
    private static void clearLeavesNoResult() {
        SpillingColours x = Sources.fourAtOnce();
        x.allocate(3);
        x.clear();
        DUE.noResult("behind clear", x);
        x.allocate(3);
        DUE.number("lines() of nothing", x.lines(), 0);
        x.clear();
        DUE.noResult("behind clear of nothing", x);
    }

    /** "false when there is no such ... line" (promise 4). */
    private static void liveIsFalseWithoutSuchALine() {
        SpillingColours x = Sources.read("BRANCH 0 0, BRANCH 9 0");
        DUE.text("live", Sources.live(x), "0 9 |0 9 |||||||||||||||");
        int[] wrong = {-1, 2, 3, 15, 16, 48, LEAST, GREATEST};
        for (int line : wrong) {
            DUE.truth("live(" + line + ", 0)", x.live(line, 0), false);
        }
        x.clear();
        DUE.truth("live(0, 0) behind clear", x.live(0, 0), false);
    }

    /** "false when there is no such value" (promise 4). */
    private static void liveIsFalseWithoutSuchAValue() {
        SpillingColours x = Sources.read("BRANCH 0 0, BRANCH 9 0");
        int[] wrong = {-1, 10, 32, 41, 64, 73, -55, -64, LEAST, GREATEST};
        for (int value : wrong) {
            DUE.truth("live(0, " + value + ")", x.live(0, value), false);
        }
    }

    private static void refused(SpillingColours x, int[] where, int number) {
        String call = "put of op " + where[0] + " with " + number + " in column " + where[1];
        DUE.thrown(call, IllegalArgumentException.class, () -> putWith(x, where, number));
    }

    private static void taken(SpillingColours x, int[] where, int number) {
        String call = "put of op " + where[0] + " with " + number + " in column " + where[1];
        DUE.number(call, putWith(x, where, number), 1);
        x.clear();
    }

    private static int putWith(SpillingColours x, int[] where, int number) {
        int[] numbers = new int[4];
        numbers[where[1]] = number;
        return x.put(where[0], numbers[1], numbers[2], numbers[3]);
    }
}
