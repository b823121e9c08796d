import java.util.List;

/** Objects with lines in them, and their results as texts. */
final class Sources {
    static final int STORE = 9;

    private static final List<String> OPS =
        List.of("SET", "MOVE", "ADD", "SUB", "LESS", "JUMP", "BRANCH", "OUT", "LOAD", "STORE");
    /** For each op the columns in which a number means something: 1 d, 2 a, 3 b. */
    private static final String[] MEANT = {"12", "12", "123", "123", "123", "2", "23", "2", "12", "12"};

    private Sources() {
    }

    /** Numbers by fours: op, d, a, b. */
    static SpillingColours of(int... numbers) {
        SpillingColours x = new SpillingColours();
        for (int i = 0; i + 3 < numbers.length; i += 4) {
            x.put(numbers[i], numbers[i + 1], numbers[i + 2], numbers[i + 3]);
        }
        return x;
    }

    /** Lines such as "SET 0 5, BRANCH 0 3, OUT 0": the op, then those of d, a and b that mean something. */
    static SpillingColours read(String lines) {
        SpillingColours x = new SpillingColours();
        for (String line : lines.split(", ")) {
            put(x, line);
        }
        return x;
    }

    static int put(SpillingColours x, String line) {
        String[] words = line.split(" ");
        int op = OPS.indexOf(words[0]);
        int[] numbers = new int[4];
        for (int i = 1; i < words.length; i++) {
            numbers[MEANT[op].charAt(i - 1) - '0'] = Integer.parseInt(words[i]);
        }
        return x.put(op, numbers[1], numbers[2], numbers[3]);
    }

    /** The lines of the result in the form that read() takes, with registers for values. */
    static String written(SpillingColours x) {
        StringBuilder text = new StringBuilder();
        for (int i = 0; i < x.lines(); i++) {
            int op = x.line(i, 0);
            text.append(i == 0 ? "" : ", ").append(OPS.get(op));
            for (char column : MEANT[op].toCharArray()) {
                text.append(' ').append(x.line(i, column - '0'));
            }
        }
        return text.toString();
    }

    /** Every line of the result as "op d a b origin", with a stroke behind it. */
    static String result(SpillingColours x) {
        StringBuilder text = new StringBuilder();
        for (int i = 0; i < x.lines(); i++) {
            for (int what = 0; what <= 4; what++) {
                text.append(x.line(i, what)).append(what < 4 ? " " : "|");
            }
        }
        return text.toString();
    }

    /** What the latest run put out, as far as it is kept. */
    static String shown(SpillingColours x, int count) {
        StringBuilder text = new StringBuilder();
        for (int k = 0; k < count; k++) {
            text.append(x.shown(k)).append(' ');
        }
        return text.toString();
    }

    /** For each line of the source the values that are live behind it, and a stroke. */
    static String live(SpillingColours x) {
        StringBuilder text = new StringBuilder();
        for (int line = 0; line < 16; line++) {
            text.append(liveBehind(x, line)).append('|');
        }
        return text.toString();
    }

    static String liveBehind(SpillingColours x, int line) {
        StringBuilder text = new StringBuilder();
        for (int value = 0; value <= 9; value++) {
            if (x.live(line, value)) {
                text.append(value).append(' ');
            }
        }
        return text.toString();
    }

    /** All that can be asked without changing anything; shownCount is how many numbers are asked for. */
    static String state(SpillingColours x, int shownCount) {
        return live(x) + result(x) + x.lines() + " " + x.slots() + " " + x.joined() + " " + x.accepts() + " "
            + x.ended() + " " + shown(x, shownCount);
    }

    /** Sixteen lines, the last of which puts out value 0. */
    static SpillingColours full() {
        SpillingColours x = new SpillingColours();
        for (int number = 1; number <= 15; number++) {
            x.put(0, 0, number, 0);
        }
        x.put(7, 0, 0, 0);
        return x;
    }

    /** Four values that are all live at once: more than three registers can hold. */
    static SpillingColours fourAtOnce() {
        return read("SET 0 1, SET 1 2, SET 2 3, SET 3 4, OUT 0, OUT 1, OUT 2, OUT 3");
    }

    /** With three registers its code would come to 49 lines. */
    static SpillingColours tooLongByOne() {
        return read("ADD 3 0 6, ADD 0 2 5, ADD 4 0 4, ADD 3 2 1, ADD 1 2 3, ADD 6 0 3, OUT 1, ADD 4 6 4, "
            + "ADD 2 1 0, ADD 5 5 4, ADD 5 6 3, ADD 6 3 4, ADD 0 3 0, ADD 2 0 2, ADD 6 0 6");
    }

    /** With three registers its code comes to 48 lines. */
    static SpillingColours justShortEnough() {
        return read("ADD 4 0 2, ADD 2 5 0, ADD 3 2 1, ADD 1 0 4, OUT 1, ADD 5 5 4, ADD 0 0 1, ADD 5 3 5, "
            + "ADD 1 0 2, ADD 4 4 5, ADD 5 0 1, OUT 0, ADD 3 2 4, ADD 3 0 1, OUT 5, ADD 0 2 5");
    }
}
