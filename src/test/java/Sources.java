/** Objects with lines in them, and their results as texts. */
final class Sources {
    static final int SET = 0;
    static final int MOVE = 1;
    static final int ADD = 2;
    static final int SUB = 3;
    static final int LESS = 4;
    static final int JUMP = 5;
    static final int BRANCH = 6;
    static final int OUT = 7;
    static final int LOAD = 8;
    static final int STORE = 9;

    private Sources() {
    }

    /** Numbers by fours: op, d, a, b. */
    static SpillingColours of(int... numbers) {
        SpillingColours x = new SpillingColours();
        for (int i = 0; i + 3 < numbers.length; i += 4) {
            x.put(numbers[i], numbers[i + 1], numbers[i + 2], numbers[i + 3]);
        }
        return x;
    }

    /** Every line of the result as "op d a b origin", with a stroke behind it. */
    static String result(SpillingColours x) {
        StringBuilder text = new StringBuilder();
        for (int i = 0; i < x.lines(); i++) {
            for (int what = 0; what <= 4; what++) {
                text.append(x.line(i, what)).append(what < 4 ? " " : "|");
            }
        }
        return text.toString();
    }

    /** What the latest run put out, as far as it is kept. */
    static String shown(SpillingColours x, int count) {
        StringBuilder text = new StringBuilder();
        for (int k = 0; k < count; k++) {
            text.append(x.shown(k)).append(' ');
        }
        return text.toString();
    }

    /** Four values that are all live at once: more than three registers can hold. */
    static SpillingColours fourAtOnce() {
        return of(
            SET, 0, 1, 0, SET, 1, 2, 0, SET, 2, 3, 0, SET, 3, 4, 0,
            OUT, 0, 0, 0, OUT, 0, 1, 0, OUT, 0, 2, 0, OUT, 0, 3, 0);
    }

    /** With three registers its code would come to 49 lines. */
    static SpillingColours tooLongByOne() {
        return of(
            ADD, 3, 0, 6, ADD, 0, 2, 5, ADD, 4, 0, 4, ADD, 3, 2, 1, ADD, 1, 2, 3, ADD, 6, 0, 3, OUT, 0, 1, 0,
            ADD, 4, 6, 4, ADD, 2, 1, 0, ADD, 5, 5, 4, ADD, 5, 6, 3, ADD, 6, 3, 4, ADD, 0, 3, 0, ADD, 2, 0, 2,
            ADD, 6, 0, 6);
    }

    /** With three registers its code comes to 48 lines. */
    static SpillingColours justShortEnough() {
        return of(
            ADD, 4, 0, 2, ADD, 2, 5, 0, ADD, 3, 2, 1, ADD, 1, 0, 4, OUT, 0, 1, 0, ADD, 5, 5, 4, ADD, 0, 0, 1,
            ADD, 5, 3, 5, ADD, 1, 0, 2, ADD, 4, 4, 5, ADD, 5, 0, 1, OUT, 0, 0, 0, ADD, 3, 2, 4, ADD, 3, 0, 1,
            OUT, 0, 5, 0, ADD, 0, 2, 5);
    }
}
