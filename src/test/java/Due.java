/** Compares answers with those that are due, and ends the program with exit code 1 if one was wrong. */
final class Due {
    /** A call that is expected to throw. */
    interface Call {
        void make();
    }

    private int wrong;

    void number(String call, long got, long want) {
        if (got != want) {
            tell(call + " answered " + got + ", due is " + want);
        }
    }

    void truth(String call, boolean got, boolean want) {
        if (got != want) {
            tell(call + " answered " + got + ", due is " + want);
        }
    }

    void text(String call, String got, String want) {
        if (!got.equals(want)) {
            tell(call + " answered " + got + ", due is " + want);
        }
    }

    void thrown(String call, Class<? extends RuntimeException> want, Call made) {
        Class<?> got = null;
        try {
            made.make();
        } catch (RuntimeException e) {
            got = e.getClass();
        }
        if (got != want) {
            tell(call + " threw " + got + ", due is " + want);
        }
    }

    /** What every call answers that asks for a result where there is none. */
    void noResult(String behind, SpillingColours x) {
        number("lines() " + behind, x.lines(), SpillingColours.NONE);
        number("slots() " + behind, x.slots(), SpillingColours.NONE);
        number("joined() " + behind, x.joined(), SpillingColours.NONE);
        truth("accepts() " + behind, x.accepts(), false);
        for (int what = 0; what <= 4; what++) {
            truth("spoil(0, " + what + ", 0) " + behind, x.spoil(0, what, 0), false);
        }
        thrown("line(0, 0) " + behind, IndexOutOfBoundsException.class, () -> x.line(0, 0));
        thrown("run(1) " + behind, IllegalStateException.class, () -> x.run(1));
    }

    void finish() {
        if (wrong != 0) {
            System.out.println(wrong + " answers are not as due");
            System.exit(1);
        }
    }

    private void tell(String fault) {
        wrong++;
        System.out.println(fault);
    }
}
