/** Counts the answers of a test that are not as due, and tells of each. */
final class Due {
    private final String test;
    private int wrong = 0;

    Due(String test) {
        this.test = test;
    }

    /** A new object, with the model beside it. */
    Desk desk() {
        return new Desk(this);
    }

    void is(String what, long got, long want) {
        if (got != want) fault(what + ": answered " + got + ", due is " + want);
    }

    void fault(String text) {
        wrong++;
        System.out.println(test + ", " + text);
    }

    /** The LAMPS of THE TOLD ROUND, and nothing behind them. */
    void round(String what, Desk x, int... want) {
        is(what + ", how many", x.many(4), want.length);
        for (int i = 0; i < want.length; i++) is(what + ", place " + i, x.at(i), want[i]);
        is(what + ", behind the end", x.at(want.length), -1);
    }

    /** LINES of the told PROOF, three numbers each, and nothing behind them. */
    void lines(String what, Desk x, int... want) {
        is(what + ", how many lines", x.many(3), want.length / 3);
        for (int i = 0; i < want.length; i++) {
            is(what + ", line " + i / 3 + " what " + i % 3, x.shown(i / 3, i % 3), want[i]);
        }
    }

    int wrong() {
        return wrong;
    }

    void end() {
        System.out.println(test + (wrong == 0 ? ": all answers are as due" : ": " + wrong + " answers are not as due"));
        if (wrong != 0) System.exit(1);
    }
}
