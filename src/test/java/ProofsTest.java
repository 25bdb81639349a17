/** Promises 27 to 36. */
public final class ProofsTest {
    private static final Due due = new Due("ProofsTest");
    private static final long ENDLESS = 1L << 62;
    private static final int NO_LINE = Integer.MIN_VALUE;

    public static void main(String[] args) {
        price();
        climb();
        climbFurther();
        bound();
        boundOfMany();
        taken();
        prove();
        proveWithTwins();
        proveSpent();
        line();
        alterAndCut();
        shown();
        check();
        checkPart();
        checkFewAndMany();
        checkRing();
        checkTwins();
        checkPrices();
        checkHangsTogetherByTheFirst();
        due.end();
    }

    private static void price() {
        Desk x = due.desk();
        due.is("27 none", x.price(0, 0), LampRound.NUMBER);
        x.lamp(0, 3, 0);
        due.is("27 below", x.price(-1, 0), LampRound.NUMBER);
        due.is("27 above", x.price(1, 0), LampRound.NUMBER);
        due.is("27 too dear", x.price(0, 100001), LampRound.NUMBER);
        due.is("27 too cheap", x.price(0, -100001), LampRound.NUMBER);
        due.is("27 refused ones change nothing", x.of(0, 4), 0);
        due.is("27 dearest", x.price(0, 100000), 1);
        due.is("27 dearest", x.of(0, 4), 100000);
        due.is("27 cheapest", x.price(0, -100000), 1);
        due.is("27 cheapest", x.of(0, 4), -100000);
        x.dark(0, true);
        due.is("27 of one that is out", x.price(0, 5), 1);
        due.is("27 of one that is out", x.of(0, 4), 5);
    }

    private static void climb() {
        Desk x = Towns.litSquare(due);
        due.is("28 n 0", x.climb(0), LampRound.NUMBER);
        due.is("28 n 101", x.climb(101), LampRound.NUMBER);
        due.is("28 n -1", x.climb(-1), LampRound.NUMBER);
        due.is("28 a step", x.climb(1), 1);
        int[] prices = {0, 0, 1, -1};
        for (int l = 0; l < 4; l++) due.is("28 price of " + l, x.of(l, 4), prices[l]);
        due.is("28 steps that leave the prices count too", x.climb(100), 100);
        for (int l = 0; l < 4; l++) due.is("28 price of " + l, x.of(l, 4), prices[l]);
        x.lamp(30, 3, 0);
        due.is("28 endless", x.climb(7), 0);
        for (int l = 0; l < 4; l++) due.is("28 endless leaves the price of " + l, x.of(l, 4), prices[l]);
        x.dark(4, true);
        x.price(4, 50);
        x.price(2, 0);
        x.price(3, 0);
        due.is("28 without the one that is out", x.climb(1), 1);
        due.is("28 the price of one that is out stays", x.of(4, 4), 50);
        due.is("28 the others' don't", x.of(3, 4), -1);
        Desk y = due.desk();
        due.is("28 STATE", y.climb(1), LampRound.STATE);
        due.is("28 NUMBER ahead of STATE", y.climb(0), LampRound.NUMBER);
    }

    /** Lamp 3 in the middle, lanes of 10 to the others: each step has another tree. */
    private static void climbFurther() {
        int[][] prices = {{0, 0, -1, 1}, {0, -1, -1, 2}, {0, -1, -2, 3}};
        for (int steps = 1; steps <= 3; steps++) {
            Desk x = due.desk();
            for (int i = 0; i < 3; i++) x.lane(3, i, 10);
            for (int i = 0; i < 4; i++) x.lamp(i, 0, 0);
            due.is("29 ahead of the climb", x.bound(), 50);
            due.is("28 steps", x.climb(steps), steps);
            for (int l = 0; l < 4; l++) due.is("28 price behind " + steps, x.of(l, 4), prices[steps - 1][l]);
            // Behind three: 2-3 11, 1-3 12, 0-3 13, 0-2 18.
            if (steps == 3) due.is("29 behind the climb", x.bound(), 54);
        }
        Desk y = due.desk();
        for (int i = 0; i < 3; i++) y.lane(3, i, 10);
        for (int i = 0; i < 4; i++) y.lamp(i, 0, 0);
        for (int l = 0; l < 4; l++) y.price(l, 100000);
        y.climb(1);
        due.is("28 a price may climb above what may be told", y.of(3, 4), 100001);
        due.is("29 prices alike leave the bound", y.bound(), 10 + 11 + 11 + 19);
    }

    private static void bound() {
        Desk x = due.desk();
        due.is("29 none", x.bound(), -ENDLESS);
        x.lamp(0, 0, 0);
        x.lamp(1, 0, 0);
        due.is("29 two", x.bound(), -ENDLESS);
        x.lamp(2, 3, 0);
        due.is("29 endless", x.bound(), ENDLESS);
        x.lane(0, 1, 7);
        due.is("29 still endless", x.bound(), ENDLESS);
        x.lane(1, 2, 9);
        due.is("29 there and back", x.bound(), 32);
        x.dark(2, true);
        due.is("29 two that aren't out", x.bound(), -ENDLESS);
        Desk y = Towns.litSquare(due);
        due.is("29 square", y.bound(), 14);
        y.price(2, 1);
        y.price(3, -1);
        due.is("29 square, priced", y.bound(), 14);
        y.price(2, 0);
        y.price(3, 2);
        // 1-2 3, 2-3 6, 0-1 2, 0-2 5 and twice 2 less.
        due.is("29 square, dearer", y.bound(), 12);
        y.price(0, -100000);
        y.price(1, -100000);
        y.price(2, 100000);
        y.price(3, 100000);
        // 1-2 3, 1-3 7; 0-1 2 - 200000, 0-2 5: as far, three at 1 and one at 3.
        due.is("29 prices at the edge", y.bound(), 17 - 200000);
        due.is("30 prices at the edge", y.taken(0), 18);
        due.is("30 prices at the edge", y.taken(1), 19);
        due.is("30 prices at the edge", y.taken(2), 1);
        due.is("30 prices at the edge", y.taken(3), 2);
    }

    /** Twelve lamps round a ring of lanes of 3. */
    private static void boundOfMany() {
        Desk x = due.desk();
        for (int i = 0; i < 12; i++) x.lane(i, (i + 1) % 12, 3);
        for (int i = 0; i < 12; i++) x.lamp(i, 0, 0);
        due.is("29 twelve", x.bound(), 36);
        for (int i = 0; i < 10; i++) due.is("30 twelve", x.taken(i), 16 * (i + 1) + i + 2);
        due.is("30 twelve", x.taken(10), 1);
        due.is("30 twelve", x.taken(11), 11);
        due.is("30 twelve", x.taken(12), -1);
        due.is("31 twelve", x.prove(36), 1);
        due.is("36 twelve", x.check(36), -1);
        due.is("36 twelve", x.check(37), 0);
    }

    private static void taken() {
        Desk x = due.desk();
        due.is("30 fewer than three", x.taken(0), -1);
        x.lamp(0, 0, 0);
        x.lamp(1, 0, 0);
        x.lane(0, 1, 4);
        due.is("30 fewer than three", x.taken(0), -1);
        x.lamp(2, 0, 0);
        due.is("30 endless: what is taken yet", x.taken(0), 1);
        due.is("30 endless: nothing more", x.taken(1), -1);
        Desk y = Towns.litSquare(due);
        int[] pairs = {18, 35, 1, 2, -1};
        for (int i = 0; i < 5; i++) due.is("30 pair " + i, y.taken(i), pairs[i]);
        due.is("30 below", y.taken(-1), -1);
        due.is("30 far", y.taken(Integer.MAX_VALUE), -1);
        y.price(3, -6);
        // 2-3 -2, 1-3 1, 1-2 3; 0-3 -1, 0-1 2, 0-2 5.
        int[] priced = {35, 19, 3, 1, -1};
        for (int i = 0; i < 5; i++) due.is("30 by priced " + i, y.taken(i), priced[i]);
    }

    private static void prove() {
        Desk x = Towns.litSquare(due);
        due.is("31 n below", x.prove(-1), LampRound.NUMBER);
        due.is("31 by prices", x.prove(14), 1);
        due.lines("31 by prices", x, 2, 0, 0);
        due.is("31 n 0", x.prove(0), 1);
        Desk y = due.desk();
        due.is("31 STATE", y.prove(0), LampRound.STATE);
        due.is("31 NUMBER ahead of STATE", y.prove(-1), LampRound.NUMBER);
        // Three lamps on a line 0 - 1 - 2: the only round has 10, the tree 1-2 and 0-1, 0-2 too.
        y.lane(0, 1, 2);
        y.lane(1, 2, 3);
        for (int i = 0; i < 3; i++) y.lamp(i, 0, 0);
        due.is("31 three", y.prove(10), 1);
        due.is("31 three: one more is spent", y.prove(11), LampRound.SPENT);
    }

    /** Ways as in the square; 3 is TWIN of 1: rounds of 18 and 20 keep them, the bound is 14. */
    private static void proveWithTwins() {
        Desk x = due.desk();
        x.lane(0, 1, 2);
        x.lane(1, 2, 3);
        x.lane(2, 3, 4);
        x.lane(3, 0, 5);
        x.lane(0, 2, 6);
        for (int i = 0; i < 4; i++) x.lamp(i, i == 3 ? 1 : 0, 1);
        due.is("31 longer than prices alone", x.prove(15), 13);
        due.lines("31 longer than prices alone", x,
                1, 0, 1, 1, 1, 2, 1, 2, 3,   // all three JOINED: 14 still
                1, 0, 2, 4, 2, 0,            // 0-2 comes ahead of 0-3, which is as dear
                1, 0, 3, 1, 1, 3, 4, 1, 0, 6, 1, 3, 3, 0, 0,
                2, 0, 0,                     // 2-3 PARTED: 17
                2, 0, 0,                     // 1-2 PARTED: 18
                2, 0, 0);                    // 0-1 PARTED: 17
        due.is("36 what was proved is right", x.check(15), -1);
        due.is("31 the least that keeps twins", x.prove(18), 21);
        due.is("36 the least that keeps twins", x.check(18), -1);
        due.is("31 no more", x.prove(19), LampRound.SPENT);
        boolean twins = false;
        for (int i = 0; i < x.many(3); i++) twins |= x.shown(i, 0) == 6 && x.shown(i, 1) == 1 && x.shown(i, 2) == 3;
        due.is("31 TWINS with the least a", twins ? 1 : 0, 1);
    }

    private static void proveSpent() {
        Desk x = Towns.litSquare(due);
        Towns.lines(x, 5, 1, 2);
        due.is("31 spent", x.prove(15), LampRound.SPENT);
        due.lines("31 spent: the told proof stays", x, 5, 1, 2);
        // Twelve lamps about one crossing: no round is shorter than 24, but 25 has no proof.
        Desk y = due.desk();
        for (int i = 0; i < 12; i++) {
            y.lane(39, i, 1);
            y.lamp(i, 0, 0);
        }
        due.is("31 all alike", y.prove(24), 1);
        due.is("31 all alike, spent", y.prove(25), LampRound.SPENT);
        due.is("31 all alike, the most", y.prove(Integer.MAX_VALUE), LampRound.SPENT);
    }

    private static void line() {
        Desk x = due.desk();
        due.is("32 op 0", x.line(0, 0, 0), LampRound.NUMBER);
        due.is("32 op 7", x.line(7, 0, 0), LampRound.NUMBER);
        due.is("32 op -1", x.line(-1, 0, 0), LampRound.NUMBER);
        for (int op = 1; op <= 6; op++) due.is("32 how many", x.line(op, 10 * op, -op), op);
        due.lines("32 as they came", x, 1, 10, -1, 2, 20, -2, 3, 30, -3, 4, 40, -4, 5, 50, -5, 6, 60, -6);
    }

    private static void alterAndCut() {
        Desk x = due.desk();
        due.is("33 none", x.alter(0, 1, 0, 0), LampRound.NUMBER);
        Towns.lines(x, 1, 2, 3, 4, 5, 6, 6, 7, 8);
        due.is("33 below", x.alter(-1, 1, 0, 0), LampRound.NUMBER);
        due.is("33 above", x.alter(3, 1, 0, 0), LampRound.NUMBER);
        due.is("33 op 0", x.alter(0, 0, 0, 0), LampRound.NUMBER);
        due.is("33 op 7", x.alter(0, 7, 0, 0), LampRound.NUMBER);
        due.lines("33 refused ones change nothing", x, 1, 2, 3, 4, 5, 6, 6, 7, 8);
        due.is("33 altered", x.alter(1, 2, Integer.MAX_VALUE, Integer.MIN_VALUE), 1);
        due.lines("33 altered", x, 1, 2, 3, 2, Integer.MAX_VALUE, Integer.MIN_VALUE, 6, 7, 8);
        due.is("34 not so many", x.cut(4), LampRound.NUMBER);
        due.is("34 below", x.cut(-1), LampRound.NUMBER);
        due.is("34 all", x.cut(3), 3);
        due.is("34 two", x.cut(2), 2);
        due.is("34 two", x.many(3), 2);
        due.is("34 cut is gone", x.shown(2, 0), NO_LINE);
        due.is("33 cut is gone", x.alter(2, 1, 0, 0), LampRound.NUMBER);
        due.is("32 behind the cut", x.line(3, 9, 9), 3);
        due.lines("32 behind the cut", x, 1, 2, 3, 2, Integer.MAX_VALUE, Integer.MIN_VALUE, 3, 9, 9);
        due.is("34 none", x.cut(0), 0);
        due.is("34 none", x.many(3), 0);
    }

    private static void shown() {
        Desk x = due.desk();
        due.is("35 none", x.shown(0, 0), NO_LINE);
        Towns.lines(x, 3, -4, 99);
        due.lines("35 shown", x, 3, -4, 99);
        due.is("35 what 3", x.shown(0, 3), NO_LINE);
        due.is("35 what -1", x.shown(0, -1), NO_LINE);
        due.is("35 line 1", x.shown(1, 0), NO_LINE);
        due.is("35 line -1", x.shown(-1, 0), NO_LINE);
        due.is("35 line 400", x.shown(400, 0), NO_LINE);
    }

    private static void check() {
        Desk x = due.desk();
        due.is("36 n below ahead of STATE", x.check(-1), -2);
        due.is("36 STATE", x.check(0), LampRound.STATE);
        Desk y = Towns.litSquare(due);
        due.is("36 n below", y.check(-1), -2);
        due.is("36 no lines end too soon", y.check(0), 0);
        Towns.lines(y, 2, 77, -5);
        due.is("36 what isn't named counts nothing", y.check(14), -1);
        due.is("36 too much", y.check(15), 0);
        Towns.lines(y, 2, 0, 0, 2, 0, 0);
        due.is("36 a line behind a proof", y.check(14), 1);
        Towns.lines(y, 1, 0, 1, 2, 0, 0);
        due.is("36 ends too soon", y.check(14), 2);
        Towns.lines(y, 1, 0, 1, 2, 0, 0, 2, 0, 0);
        due.is("36 both cases", y.check(14), -1);
        Towns.lines(y, 1, 0, 1, 2, 0, 0, 2, 0, 0, 3, 0, 0);
        due.is("36 behind both cases", y.check(14), 3);
        due.is("36 the first wrong one", y.check(15), 1);
    }

    private static void checkPart() {
        Desk x = Towns.litSquare(due);
        x.lamp(9, 3, 0);
        x.dark(4, true);
        int[][] wrong = {{1, 0}, {2, 2}, {-1, 2}, {0, 5}, {0, 4}, {0, 12}, {0, 40}, {-5, -3}, {3, Integer.MAX_VALUE}};
        for (int[] pair : wrong) {
            Towns.lines(x, 1, pair[0], pair[1]);
            due.is("36 PART " + pair[0] + " " + pair[1], x.check(14), 0);
        }
        Towns.lines(x, 1, 2, 3);
        due.is("36 PART stands", x.check(14), 1);
        Towns.lines(x, 1, 2, 3, 1, 2, 3);
        due.is("36 JOINED already", x.check(14), 1);
        Towns.lines(x, 1, 2, 3, 2, 0, 0, 1, 2, 3);
        due.is("36 PARTED already", x.check(14), 2);
        Towns.lines(x, 1, 0, 1, 1, 0, 2, 2, 0, 0, 2, 0, 0, 1, 0, 2, 2, 0, 0, 2, 0, 0);
        due.is("36 a pair anew in the other case", x.check(14), -1);
    }

    private static void checkFewAndMany() {
        Desk x = Towns.litSquare(due);
        Towns.lines(x, 3, 0, 0);
        due.is("36 FEW of all", x.check(0), 0);
        Towns.lines(x, 1, 0, 1, 2, 0, 0, 3, 0, 0);
        due.is("36 FEW with two left", x.check(0), 2);
        Towns.lines(x, 1, 0, 1, 2, 0, 0, 1, 0, 2, 2, 0, 0, 3, 0, 55);
        due.is("36 FEW with one left", x.check(0), -1);
        x.alter(4, 3, 3, 0);
        due.is("36 FEW of another", x.check(0), 4);
        x.alter(4, 3, -1, 0);
        due.is("36 FEW of none", x.check(0), 4);
        x.alter(4, 3, 4, 0);
        due.is("36 FEW of none", x.check(0), 4);
        Towns.lines(x, 1, 0, 1, 1, 0, 2, 4, 0, 0);
        due.is("36 MANY with two", x.check(0), 2);
        Towns.lines(x, 1, 0, 1, 1, 0, 2, 1, 0, 3, 4, 0, -1);
        due.is("36 MANY with three", x.check(0), 4);
        x.alter(3, 4, 1, 0);
        due.is("36 MANY of another", x.check(0), 3);
        x.alter(3, 4, 99, 0);
        due.is("36 MANY of none", x.check(0), 3);
        // Of three lamps each has two pairs: one PARTED is enough for FEW.
        Desk y = due.desk();
        for (int i = 0; i < 4; i++) y.lamp(i, i == 1 ? 3 : 0, 0);
        y.dark(1, true);
        Towns.lines(y, 1, 0, 3, 2, 0, 0, 3, 3, 0);
        due.is("36 FEW without those that are out", y.check(0), -1);
        y.alter(2, 3, 2, 0);
        due.is("36 FEW of one with two left", y.check(0), 2);
        y.alter(2, 3, 1, 0);
        due.is("36 FEW of one that is out", y.check(0), 2);
    }

    private static void checkRing() {
        Desk x = Towns.litSquare(due);
        Towns.lines(x, 1, 0, 1, 1, 1, 2, 5, 0, 0);
        due.is("36 RING that is open", x.check(0), 2);
        Towns.lines(x, 1, 0, 1, 1, 1, 2, 1, 0, 2, 5, 0, 9);
        due.is("36 RING", x.check(0), 4);
        x.alter(3, 5, 2, 0);
        due.is("36 RING of any of it", x.check(0), 4);
        x.alter(3, 5, 3, 0);
        due.is("36 RING of one outside", x.check(0), 3);
        x.alter(3, 5, -3, 0);
        due.is("36 RING of none", x.check(0), 3);
        Towns.lines(x, 1, 0, 1, 1, 1, 2, 1, 0, 2, 1, 0, 3, 5, 0, 0);
        due.is("36 RING with a tail", x.check(0), 4);
        Towns.lines(x, 1, 0, 1, 1, 1, 2, 1, 2, 3, 1, 0, 3, 5, 0, 0);
        due.is("36 RING of all", x.check(0), 4);
        Desk y = due.desk();
        for (int i = 0; i < 8; i++) y.lamp(i, 0, 0);
        Towns.lines(y, 1, 0, 1, 1, 1, 2, 1, 2, 3, 1, 3, 4, 1, 4, 5, 1, 5, 6, 1, 0, 6, 5, 3, 0);
        due.is("36 RING of seven", y.check(0), 8);
    }

    private static void checkTwins() {
        Desk x = due.desk();
        x.lamp(0, 0, 0);
        x.lamp(1, 3, 0);
        x.lamp(2, 1, 0);
        x.lamp(3, 1, 1);
        x.lamp(4, 2, 0);
        x.lane(4, 3, 1);
        Towns.lines(x, 6, 0, 2);
        due.is("36 TWINS that aren't PARTED", x.check(0), 0);
        Towns.lines(x, 1, 0, 2, 6, 0, 2);
        due.is("36 TWINS that are JOINED", x.check(0), 1);
        Towns.lines(x, 1, 0, 2, 2, 0, 0, 6, 0, 2);
        due.is("36 TWINS", x.check(0), -1);
        x.alter(2, 6, 2, 0);
        due.is("36 TWINS, the other way about", x.check(0), -1);
        x.alter(2, 6, 0, 1);
        due.is("36 no TWINS", x.check(0), 2);
        x.alter(2, 6, 0, -1);
        due.is("36 no lamp", x.check(0), 2);
        x.alter(2, 6, 77, 0);
        due.is("36 no lamp", x.check(0), 2);
        Towns.lines(x, 1, 3, 4, 2, 0, 0, 6, 3, 4);
        due.is("36 a corner's TWIN", x.check(0), -1);
        Towns.lines(x, 1, 1, 3, 2, 0, 0, 6, 1, 3);
        due.is("36 TWINS that are lit", x.check(0), -1);
        x.dark(1, true);
        Towns.lines(x, 1, 0, 2, 2, 0, 0, 6, 1, 3);
        due.is("36 one is out", x.check(0), 2);
    }

    private static void checkPrices() {
        Desk x = Towns.litSquare(due);
        // JOINED 1-3: 1-3 7, 1-2 3, 0-1 2, 0-2 5; PARTED 0-1: 1-2 3, 2-3 4, 0-2 5, 0-3 5.
        Towns.lines(x, 1, 1, 3, 2, 0, 0, 2, 0, 0);
        due.is("36 JOINED ones first", x.check(17), 2);
        due.is("36 JOINED ones first", x.check(18), 1);
        Towns.lines(x, 1, 0, 1, 1, 0, 3, 2, 0, 0);
        // 1-2 3, 2-3 4; 0-1 2, 0-3 5.
        due.is("36 JOINED ones of THE FIRST", x.check(14), 3);
        due.is("36 JOINED ones of THE FIRST", x.check(15), 2);
        Towns.lines(x, 1, 0, 1, 3, 0, 0, 2, 0, 0);
        x.alter(1, 2, 0, 0);
        due.is("36 PARTED ones are left out", x.check(14), -1);
        Towns.lines(x, 1, 1, 2, 2, 0, 0, 2, 0, 0);
        // PARTED 1-2: 2-3 4, 1-3 7, 0-1 2, 0-2 5.
        due.is("36 PARTED ones are left out", x.check(14), -1);
        due.is("36 too much for the JOINED case", x.check(15), 1);
        x.price(0, 9);
        due.is("36 prices of THE FIRST alone change nothing", x.check(14), -1);
        x.lamp(30, 0, 0);
        Towns.lines(x, 2, 0, 0);
        due.is("36 ENDLESS", x.check(Integer.MAX_VALUE), -1);
        Desk y = Towns.litSquare(due);
        Towns.lines(y, 1, 0, 1, 2, 0, 0, 1, 0, 2, 2, 0, 0, 2, 0, 0);
        due.is("36 THE FIRST has one pair only: ENDLESS", y.check(14), -1);
        y.lamp(20, 3, 0);
        y.dark(4, true);
        due.is("36 the same without one that is out", y.check(14), -1);
    }

    /**
     * All pairs between 1, 2 and 3, 4 are PARTED, so the tree of these falls into two; but THE FIRST's
     * two pairs hang all together, as what is taken: the bound isn't ENDLESS.
     */
    private static void checkHangsTogetherByTheFirst() {
        Desk x = due.desk();
        for (int i = 0; i < 5; i++) {
            x.lane(39, i, i == 1 || i == 3 ? 1 : 2);
            x.lamp(i, 0, 0);
        }
        Towns.lines(x, 1, 1, 3, 2, 0, 0, 1, 1, 4, 2, 0, 0, 1, 2, 3, 2, 0, 0, 1, 2, 4, 2, 0, 0, 2, 0, 0);
        // 1-2 3, 3-4 3, 0-1 3, 0-3 3: 12.
        due.is("36 hangs together by THE FIRST", x.check(12), -1);
        due.is("36 hangs together by THE FIRST, n 13", x.check(13), 8);
        x.open(0, false);
        due.is("36 THE FIRST is apart", x.check(13), -1);
    }
}
