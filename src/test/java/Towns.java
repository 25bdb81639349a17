/** Towns that several tests begin with. */
final class Towns {
    private Towns() {
    }

    /**
     * Crossings 0 to 3, no lamps; ways 0-1 2, 1-2 3, 2-3 4, 0-3 5, 0-2 5, 1-3 7. With a lamp at each,
     * by their numbers: 0 1 2 3 has 14, 0 1 3 2 has 18, 0 2 1 3 has 20.
     */
    static Desk square(Due due) {
        Desk x = due.desk();
        x.lane(0, 1, 2);
        x.lane(1, 2, 3);
        x.lane(2, 3, 4);
        x.lane(3, 0, 5);
        x.lane(0, 2, 6);
        return x;
    }

    static Desk litSquare(Due due) {
        Desk x = square(due);
        light(x, 4);
        return x;
    }

    /** Crossing 39 in the middle, a lane of 1 to each of n others: all rounds have one length. */
    static Desk star(Due due, int n) {
        Desk x = due.desk();
        for (int i = 0; i < n; i++) x.lane(39, i, 1);
        return x;
    }

    static Desk litStar(Due due, int n) {
        Desk x = star(due, n);
        light(x, n);
        return x;
    }

    /** Plain lamps at crossings 0 to n - 1. */
    static void light(Desk x, int n) {
        for (int i = 0; i < n; i++) x.lamp(i, 0, 0);
    }

    /** THE TOLD ROUND is these lamps and nothing more. */
    static void tell(Desk x, int... lamps) {
        x.clear();
        for (int l : lamps) x.put(l);
    }

    /** The told PROOF is these lines, three numbers each, and nothing more. */
    static void lines(Desk x, int... told) {
        x.cut(0);
        for (int i = 0; i + 2 < told.length; i += 3) x.line(told[i], told[i + 1], told[i + 2]);
    }
}
