import java.util.Arrays;

/** Many sources, made by a fixed rule: the program answers as the oracle does, call by call. */
final class OracleTest {
    private static final int SOURCES = 3000;

    private static final Due DUE = new Due();
    private static int fewLines;
    private static int spilling;
    private static int joining;
    private static int manyRounds;
    private static int outOfRoom;
    private static int temporarySpilled;
    private static int unaccepted;
    private static int acceptedSpoilt;
    private static int endless;
    private static int unwalked;

    public static void main(String[] args) {
        for (int seed = 0; seed < SOURCES; seed++) {
            compare(seed);
        }
        causesWereMet();
        DUE.finish();
    }

    /** Every part has objects of its own: beyond 512 calls an object may answer what it likes. */
    private static void compare(int seed) {
        Numbers numbers = new Numbers(seed);
        int[][] lines = source(numbers);
        String name = "seed " + seed + Arrays.deepToString(lines);
        sameLive(name, lines);
        for (int k = 3; k <= 6; k++) {
            sameAllocation(name + " allocate(" + k + ")", numbers, lines, k);
        }
        int[][] others = source(numbers);
        sameBehindClear(name + Arrays.deepToString(others), lines, others, 3 + numbers.below(4));
    }

    private static int[][] source(Numbers numbers) {
        int count = numbers.once(3) ? numbers.below(17) : 10 + numbers.below(7);
        int values = numbers.once(3) ? 2 + numbers.below(9) : 7 + numbers.below(4);
        int style = numbers.below(4);
        int[][] lines = new int[count][];
        for (int i = 0; i < count; i++) {
            int op = pickOp(numbers, style, i, count);
            int d = numbers.below(values);
            int a = op == 5 ? target(numbers, count) : op == 0 ? numbers.below(9) - 3 : numbers.below(values);
            int b = op == 6 ? target(numbers, count) : numbers.below(values);
            lines[i] = new int[] {op, d, a, b};
        }
        return lines;
    }

    private static void fill(String name, int[][] lines, SpillingColours x, Oracle y) {
        for (int[] n : lines) {
            DUE.number(name + " put", x.put(n[0], n[1], n[2], n[3]), y.put(n[0], n[1], n[2], n[3]));
        }
    }

    private static int target(Numbers numbers, int lines) {
        return numbers.once(6) ? 16 : numbers.below(Math.min(16, lines + 1));
    }

    private static int pickOp(Numbers numbers, int style, int i, int lines) {
        switch (style) {
            case 0:
                return numbers.below(8);
            case 1:
                return i < lines / 2 ? numbers.below(2) : numbers.below(8);
            case 2:
                return numbers.once(2) ? 1 : 2 + numbers.below(6);
            default:
                return numbers.once(5) ? 6 : 2 + numbers.below(3);
        }
    }

    private static void sameLive(String name, int[][] lines) {
        SpillingColours x = new SpillingColours();
        Oracle y = new Oracle();
        fill(name, lines, x, y);
        for (int line = -1; line <= 16; line++) {
            for (int value = -1; value <= 10; value++) {
                DUE.truth(name + " live(" + line + ", " + value + ")", x.live(line, value), y.live(line, value));
            }
        }
    }

    private static void sameAllocation(String name, Numbers numbers, int[][] lines, int k) {
        SpillingColours x = new SpillingColours();
        Oracle y = new Oracle();
        fill(name, lines, x, y);
        int rounds = x.allocate(k);
        DUE.number(name, rounds, y.allocate(k));
        sameResult(name, x, y);
        count(rounds, y);
        if (rounds != SpillingColours.NONE) {
            DUE.truth(name + " accepts by itself", x.accepts(), true);
            sameRuns(name, x, y);
            spoilSome(name, numbers, x, y, k);
        }
    }

    private static void sameBehindClear(String name, int[][] lines, int[][] others, int k) {
        SpillingColours x = new SpillingColours();
        Oracle y = new Oracle();
        fill(name, lines, x, y);
        DUE.number(name + " allocate", x.allocate(k), y.allocate(k));
        DUE.number(name + " clear", x.clear(), y.clear());
        sameResult(name + " cleared", x, y);
        fill(name, others, x, y);
        DUE.number(name + " allocate again", x.allocate(k), y.allocate(k));
        sameResult(name + " allocated again", x, y);
        sameRun(name + " allocated again", x, y, 0);
    }

    private static void count(int rounds, Oracle y) {
        fewLines += y.lines() == 0 ? 1 : 0;
        spilling += y.slots() > 0 ? 1 : 0;
        joining += y.joined() > 0 && y.slots() > 0 ? 1 : 0;
        manyRounds += rounds > 2 ? 1 : 0;
        outOfRoom += y.failure.equals("room") ? 1 : 0;
        temporarySpilled += y.failure.equals("temporary") ? 1 : 0;
    }

    private static void sameResult(String name, SpillingColours x, Oracle y) {
        DUE.number(name + " lines()", x.lines(), y.lines());
        DUE.number(name + " slots()", x.slots(), y.slots());
        DUE.number(name + " joined()", x.joined(), y.joined());
        for (int i = 0; i < y.lines(); i++) {
            sameLine(name, i, x, y);
        }
    }

    private static void sameLine(String name, int i, SpillingColours x, Oracle y) {
        for (int what = 0; what <= 4; what++) {
            DUE.number(name + " line(" + i + ", " + what + ")", x.line(i, what), y.line(i, what));
        }
    }

    /** Runs of source and result are the same to the eye, as long as nothing is spoilt. */
    private static void sameRuns(String name, SpillingColours x, Oracle y) {
        sameRun(name + " source", x, y, 0);
        String of = outcome(x, x.run(0));
        DUE.text(name + " result as source", outcome(x, x.run(1)), of);
        endless += x.ended() ? 0 : 1;
    }

    private static String outcome(SpillingColours x, int count) {
        StringBuilder text = new StringBuilder().append(count).append(x.ended());
        for (int k = 0; k < Math.min(20, count); k++) {
            text.append(' ').append(x.shown(k));
        }
        return text.toString();
    }

    private static void sameRun(String name, SpillingColours x, Oracle y, int code) {
        int count = x.run(code);
        DUE.number(name + " run(" + code + ")", count, y.run(code));
        for (int k = 0; k < Math.min(20, count); k++) {
            DUE.number(name + " shown(" + k + ")", x.shown(k), y.shown(k));
        }
        DUE.truth(name + " ended()", x.ended(), y.ended());
    }

    private static void spoilSome(String name, Numbers numbers, SpillingColours x, Oracle y, int k) {
        for (int times = 0; times < 4; times++) {
            int i = numbers.below(y.lines() + 2) - 1;
            int what = numbers.once(4) ? numbers.below(7) - 1 : 1 + numbers.below(3);
            int register = numbers.once(9) ? k : numbers.below(k + 1) - (numbers.once(9) ? 1 : 0);
            boolean spoilt = x.spoil(i, what, register);
            DUE.truth(name + " spoil(" + i + ", " + what + ", " + register + ")", spoilt, y.spoil(i, what, register));
            if (i >= 0 && i < y.lines()) {
                sameLine(name + " spoilt", i, x, y);
            }
            sameAccepts(name + " spoilt", spoilt, x, y);
            sameRun(name + " spoilt", x, y, 1);
        }
    }

    private static void sameAccepts(String name, boolean spoilt, SpillingColours x, Oracle y) {
        int due = y.accepts();
        if (due == Oracle.NONE) {
            unwalked++;
            return;
        }
        DUE.truth(name + " accepts()", x.accepts(), due == 1);
        unaccepted += due == 0 ? 1 : 0;
        acceptedSpoilt += due == 1 && spoilt ? 1 : 0;
    }

    /** The comparison is worth something only when the sources come to every part of the document. */
    private static void causesWereMet() {
        String met = "empty " + fewLines + ", spilling " + spilling + ", joining " + joining + ", rounds " + manyRounds
            + ", room " + outOfRoom + ", temporary " + temporarySpilled + ", unaccepted " + unaccepted
            + ", accepted though spoilt " + acceptedSpoilt + ", endless " + endless + ", unwalked " + unwalked;
        System.out.println(met);
        int[] counts = {fewLines, spilling, joining, manyRounds, outOfRoom, unaccepted, acceptedSpoilt, endless};
        for (int count : counts) {
            DUE.truth("sources of every kind: " + met, count > 0, true);
        }
    }
}
