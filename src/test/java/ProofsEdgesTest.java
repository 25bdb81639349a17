import java.io.IOException;

/** The edges of Terms 4 and of promises 27 to 36. */
public final class ProofsEdgesTest {
    private static final int MIN = Integer.MIN_VALUE;
    private static final int MAX = Integer.MAX_VALUE;
    private static final long ENDLESS = 1L << 62;

    private static final int PART = 1;
    private static final int PRICES = 2;
    private static final int FEW = 3;
    private static final int MANY = 4;
    private static final int RING = 5;
    private static final int TWINS = 6;

    public static void main(String[] args) throws IOException, IllegalAccessException {
        Sentences.hold(ProofsEdgesTest.class);
    }

    /** A ring of lanes through crossings 0 to n - 1 of these lengths, and one lane more. */
    private static Desk ring(Due due, int[] lengths, int a, int b, int length) {
        Desk x = due.desk();
        for (int i = 0; i < lengths.length; i++) x.lane(i, (i + 1) % lengths.length, lengths[i]);
        x.lane(a, b, length);
        return x;
    }

    /** To prove 43 of it takes 399 lines; its least round has 44. */
    private static Desk townOf399(Due due) {
        Desk x = ring(due, new int[] {5, 7, 9, 3, 3, 6}, 3, 5, 2);
        for (int i = 0; i < 6; i++) x.lamp(i, i == 3 ? 1 : 0, 1);
        return x;
    }

    /** To prove 53 of it, its least round, would take 401 lines; 52 takes 367. */
    private static Desk townOf401(Due due) {
        Desk x = ring(due, new int[] {6, 6, 3, 5, 9, 6}, 2, 3, 5);
        for (int i = 0; i < 6; i++) x.lamp(i, i == 1 || i == 3 ? 1 : 0, 0);
        return x;
    }

    /**
     * A town whose proof for 24 has each kind of line, with so many lamps ahead of its five, 0 or 1,
     * that are out. Of the five: 0-1 2, 2-3 3, 0-4 4, 1-4 6, 2-4 6, 1-2 7, 3-4 7, 0-2 9, 1-3 10, 0-3 11.
     */
    private static Desk townOfAllLines(Due due, int ahead) {
        Desk x = ring(due, new int[] {2, 7, 3, 7, 4}, 2, 4, 6);
        if (ahead == 1) {
            x.lane(5, 0, 1);
            x.lamp(5, 3, 0);
            x.price(0, -1000);
            x.dark(0, true);
        }
        x.lamp(0, 0, 0);
        x.lamp(1, 1, ahead);
        x.lamp(2, 1, ahead);
        x.lamp(3, 0, 0);
        x.lamp(4, 0, 0);
        return x;
    }

    /** Two lamps that aren't out, a third that is. */
    private static Desk pair(Due due) {
        Desk x = Towns.star(due, 3);
        for (int i = 0; i < 3; i++) x.lamp(i, i == 2 ? 3 : 0, 0);
        x.dark(2, true);
        return x;
    }

    private static void prices(Due due, String what, Desk x, int... want) {
        for (int l = 0; l < want.length; l++) due.is(what + ", price of " + l, x.of(l, 4), want[l]);
    }

    private static void taken(Due due, String what, Desk x, int... want) {
        for (int i = 0; i < want.length; i++) due.is(what + ", pair " + i, x.taken(i), want[i]);
        due.is(what + ", behind the last", x.taken(want.length), -1);
    }

    // ---- prices and trees

    @Says(promise = 0, value = "PRICES are ints, one for each LAMP (0 at first).")
    static void pricesAreNoughtAtFirst(Due due) {
        Desk x = Towns.litSquare(due);
        prices(due, "at first", x, 0, 0, 0, 0);
        x.price(1, 7);
        prices(due, "one for each", x, 0, 7, 0, 0);
        x.lamp(20, 3, 0);
        due.is("of one that comes later", x.of(4, 4), 0);
        x.price(4, 5);
        x.dark(4, true);
        due.is("it stays when it goes out", x.of(4, 4), 5);
        x.dark(4, false);
        due.is("and when it is lit", x.of(4, 4), 5);
    }

    @Says(promise = 0, value = "PRICED is the WAY of two LAMPS and both their PRICES.")
    static void pricedIsTheWayAndBothPrices(Due due) {
        Desk x = Towns.litSquare(due);
        taken(due, "by the ways alone", x, 18, 35, 1, 2);
        x.price(1, 2);
        // 1-2 5, 2-3 4, 1-3 9; 0-1 4, 0-2 5, 0-3 5: 18 less 4.
        taken(due, "2-3 ahead of 1-2, by one price", x, 35, 18, 1, 2);
        due.is("the bound", x.bound(), 14);
        x.price(3, 2);
        // 1-2 5, 2-3 6, 1-3 11; 0-1 4, 0-2 5, 0-3 7: 20 less 8.
        taken(due, "1-2 ahead of 2-3, by both prices", x, 18, 35, 1, 2);
        due.is("the bound", x.bound(), 12);
        x.price(0, -3);
        // Of THE FIRST: 0-1 1, 0-2 2; 14 less twice 1.
        due.is("THE FIRST has one, too", x.bound(), 12);
    }

    @Says(promise = 0, value = "THE FIRST is the least LAMP that isn't OUT.")
    static void theFirstIsTheLeastThatIsNotOut(Due due) {
        Desk x = Towns.star(due, 5);
        for (int i = 0; i < 5; i++) x.lamp(i, i < 2 ? 3 : 0, 0);
        taken(due, "0 is THE FIRST", x, 18, 19, 20, 1, 2);
        x.dark(0, true);
        taken(due, "1 is THE FIRST", x, 35, 36, 18, 19);
        x.dark(1, true);
        taken(due, "2 is THE FIRST", x, 52, 35, 36);
    }

    @Says(promise = 0, value = "then by PRICED, then by the lesser LAMP, then by the greater one")
    static void pairsAlikeGoByTheirNumbers(Due due) {
        Desk x = Towns.litStar(due, 12);
        taken(due, "all alike", x, 18, 19, 20, 21, 22, 23, 24, 25, 26, 27, 1, 2);
        x.price(11, -1);
        // All pairs of 11 have 1 now: by the lesser one.
        taken(due, "those of 11 first", x, 27, 43, 59, 75, 91, 107, 123, 139, 155, 171, 11, 1);
        // Eleven of 1, one of 2, less twice -1.
        due.is("they hang together", x.bound(), 15);
    }

    @Says(promise = 0, value = "THE TREE of a CASE: pairs of LAMPS other than THE FIRST that aren't PARTED are gone over, JOINED ones ahead of others")
    static void joinedPairsAreTakenAheadOfCheaperOnes(Due due) {
        Desk x = Towns.litSquare(due);
        Towns.lines(x, PART, 1, 3, PRICES, 0, 0, PRICES, 0, 0);
        // 1-3 7 JOINED, then 1-2 3; 0-1 2, 0-2 5. PARTED: as without pairs.
        due.is("17 with 1-3 JOINED", x.check(17), 2);
        due.is("18 is too much", x.check(18), 1);
        Towns.lines(x, PART, 1, 2, PRICES, 0, 0, PRICES, 0, 0);
        // 1-2 PARTED: 2-3 4, 1-3 7, 0-1 2, 0-2 5.
        x.alter(1, PART, 1, 3);
        x.line(PRICES, 0, 0);
        x.line(PRICES, 0, 0);
        due.is("18 with 1-2 PARTED, but 14 ahead of it", x.check(15), 3);
        // 1-2, 1-3 JOINED: 10, 0-1 2, 0-2 5.
        due.is("17 with both JOINED", x.check(18), 2);
        Towns.lines(x, PART, 1, 2, PART, 1, 3, PART, 2, 3, PRICES, 0, 0);
        // All three JOINED: 2-3 would close the ring, so 1-2 3, 2-3 4 are taken and 1-3 not.
        due.is("by PRICED among JOINED ones", x.check(14), 4);
        due.is("by PRICED among JOINED ones", x.check(15), 3);
    }

    @Says(promise = 0, value = "and of the pairs of THE FIRST with others that aren't PARTED the first two, JOINED ones ahead of others, then by PRICED, then by the other LAMP.")
    static void theFirstsTwoPairs(Due due) {
        Desk x = Towns.litSquare(due);
        // The others have 7: 1-2 3, 2-3 4. Of THE FIRST: 0-1 2, 0-2 5, 0-3 5.
        Towns.lines(x, PART, 0, 2, PRICES, 0, 0);
        due.is("0-2 JOINED, then 0-1", x.check(14), 2);
        Towns.lines(x, PART, 0, 2, PART, 0, 3, PRICES, 0, 0);
        due.is("0-2, 0-3 JOINED: 17", x.check(17), 3);
        due.is("0-2, 0-3 JOINED: not 18", x.check(18), 2);
        Towns.lines(x, PART, 0, 3, PART, 0, 2, PART, 0, 1, PRICES, 0, 0);
        due.is("all three JOINED: 14", x.check(14), 4);
        due.is("all three JOINED: not 15", x.check(15), 3);
        taken(due, "of 0-2 and 0-3, which are alike, the lesser", x, 18, 35, 1, 2);
        x.price(3, -1);
        taken(due, "0-3 is cheaper by one", x, 18, 35, 1, 3);
    }

    @Says(promise = 0, value = "It is RIGHT for n if it is a PROOF for the CASE without pairs and nothing more. Otherwise its WRONG LINE is the first one that can't stand where it stands")
    static void ofTwoWrongLinesTheFirst(Due due) {
        Desk x = Towns.litSquare(due);
        Towns.lines(x, PART, 0, 1, FEW, 0, 0, MANY, 0, 0);
        due.is("the JOINED case's", x.check(14), 1);
        x.alter(1, PRICES, 0, 0);
        due.is("the PARTED case's", x.check(14), 2);
        x.alter(2, PRICES, 0, 0);
        due.is("right", x.check(14), -1);
        x.alter(0, PART, 1, 0);
        due.is("the first of all", x.check(14), 0);
        Towns.lines(x, PRICES, 0, 0);
        due.is("one line, right", x.check(14), -1);
        due.is("one line, wrong", x.check(15), 0);
    }

    @Says(promise = 0, value = "that is neither JOINED nor PARTED and first in THE TREE's sense (by PRICED, then by the lesser LAMP, then by the greater one; among all pairs of LAMPS that aren't OUT")
    static void whatProvePartsFirst(Due due) {
        Desk x = townOfAllLines(due, 0);
        x.price(3, -10);
        due.is("the tree", x.bound(), 13);
        due.is("more than prices", x.prove(24) > 6 ? 1 : 0, 1);
        // 2-3 -7, 3-4 -3, 1-3 0, 0-3 1, 0-1 2: by PRICED, not by WAY.
        int[] want = {PART, 2, 3, PART, 3, 4, PART, 1, 3, MANY, 3, 0, PART, 0, 3, MANY, 3, 0};
        for (int i = 0; i < want.length; i++) due.is("line " + i / 3 + " what " + i % 3, x.shown(i / 3, i % 3), want[i]);
        due.is("right", x.check(24), -1);
    }

    @Says(promise = 0, value = "among all pairs of LAMPS that aren't OUT; pairs without a WAY come last), and then the PROOFS of both CASES, JOINED first.")
    static void proveLeavesOutWhatIsOut(Due due) {
        Desk x = due.desk();
        Desk y = townOfAllLines(due, 1);
        // Lamp 0 is nearest to all, but out: the same proof with each number higher by one.
        due.is("lines", y.prove(24), 19);
        due.lines("higher by one", y,
                PART, 1, 2, PART, 3, 4, PART, 1, 5, PART, 2, 5, RING, 1, 0,
                PART, 3, 5, PART, 2, 3, MANY, 3, 0, PRICES, 0, 0,
                PART, 2, 3, PART, 4, 5, PART, 1, 3, MANY, 1, 0, TWINS, 1, 3, FEW, 5, 0,
                PRICES, 0, 0,
                PRICES, 0, 0, PRICES, 0, 0, TWINS, 1, 2);
        due.is("right", y.check(24), -1);
        // Where some pair has no way all is ENDLESS: PRICES stands ahead of PART.
        Towns.light(x, 12);
        due.is("no ways at all", x.prove(MAX), 1);
        due.lines("no ways at all", x, PRICES, 0, 0);
    }

    @Says(promise = 0, value = "each that joins two LAMPS that those taken so far don't hang together is taken")
    static void aPairThatClosesARingIsNotTaken(Due due) {
        Desk x = due.desk();
        x.lane(1, 2, 1);
        x.lane(2, 3, 1);
        x.lane(1, 3, 1);
        x.lane(3, 4, 9);
        x.lane(0, 1, 9);
        Towns.light(x, 5);
        // 1-3 is as near as 1-2 and 1-3 ahead of 2-3, which isn't taken.
        taken(due, "1-2, 1-3, not 2-3", x, 18, 19, 52, 1, 2);
    }

    @Says(promise = 0, value = "THE BOUND of the CASE: the sum of PRICED of what was taken, less twice all PRICES of LAMPS that aren't OUT")
    static void thePriceOfOneThatIsOutCountsNothing(Due due) {
        Desk x = Towns.litSquare(due);
        x.lamp(10, 3, 0);
        x.dark(4, true);
        x.price(4, 1000);
        due.is("the price of one that is out", x.bound(), 14);
        for (int l = 0; l < 4; l++) x.price(l, -100000);
        due.is("all alike at the least", x.bound(), 14);
        for (int l = 0; l < 4; l++) x.price(l, 100000);
        due.is("all alike at the greatest", x.bound(), 14);
    }

    @Says(promise = 0, value = "it is ENDLESS if what is taken doesn't hang all LAMPS together")
    static void theFirstsPairsHangTogetherToo(Due due) {
        Desk x = due.desk();
        for (int i = 0; i < 5; i++) x.lane(39, i, i == 1 || i == 3 ? 1 : 2);
        Towns.light(x, 5);
        Towns.lines(x, PART, 1, 3, PRICES, 0, 0, PART, 1, 4, PRICES, 0, 0, PART, 2, 3, PRICES, 0, 0, PART, 2, 4, PRICES, 0, 0, PRICES, 0, 0);
        // All between 1, 2 and 3, 4 PARTED: 1-2 3, 3-4 3, and THE FIRST ties them by 0-1 3, 0-3 3.
        due.is("12 isn't ENDLESS", x.check(12), -1);
        due.is("so it isn't 13", x.check(13), 8);
    }

    @Says(promise = 0, value = "it is ENDLESS if what is taken doesn't hang all LAMPS together")
    static void theFirstsPairsMayGoToOnePart(Due due) {
        Desk x = due.desk();
        for (int i = 0; i < 5; i++) x.lane(39, i, i == 1 || i == 2 ? 1 : 2);
        Towns.light(x, 5);
        Towns.lines(x, PART, 1, 3, PRICES, 0, 0, PART, 1, 4, PRICES, 0, 0, PART, 2, 3, PRICES, 0, 0, PART, 2, 4, PRICES, 0, 0, PRICES, 0, 0);
        // THE FIRST's pairs are 0-1 and 0-2: nothing ties 3, 4 to them, though all would have but 12.
        due.is("ENDLESS", x.check(14), -1);
        // Ahead of it 1-3 JOINED: 1-3 3, 1-2 2, 1-4 3, 0-1 3, 0-2 3.
        due.is("14 is the least of the other cases", x.check(15), 1);
    }

    @Says(promise = 0, value = "or THE FIRST has no two pairs")
    static void theFirstHasNoTwoPairs(Due due) {
        Desk far = due.desk();
        for (int i = 0; i < 4; i++) far.lane(39, i, i == 3 ? 5 : 1);
        Towns.light(far, 4);
        Towns.lines(far, PART, 0, 3, PRICES, 0, 0, PRICES, 0, 0);
        // 0-3 JOINED: 1-2 2, 1-3 6, 0-3 6, 0-1 2; PARTED: 0-2 2 for 0-3.
        due.is("two are left: 12", far.check(12), -1);
        due.is("two are left: not 13", far.check(13), 2);
        Desk x = Towns.litSquare(due);
        Towns.lines(x, PART, 0, 1, PRICES, 0, 0, PART, 0, 2, PRICES, 0, 0, PRICES, 0, 0);
        // One is left, 0-3: all hang together by it, but the bound is ENDLESS (12 else).
        due.is("one is left", x.check(14), -1);
        Towns.lines(x, PART, 0, 1, PRICES, 0, 0, PART, 0, 2, PRICES, 0, 0, PART, 0, 3, PRICES, 0, 0, PRICES, 0, 0);
        due.is("none is left", x.check(14), -1);
    }

    @Says(promise = 0, value = "(A pair without a WAY is never taken.)")
    static void aPairWithoutAWayIsNeverTaken(Due due) {
        Desk x = due.desk();
        x.lane(0, 1, 5);
        x.lane(2, 3, 5);
        Towns.light(x, 4);
        x.price(1, -100000);
        x.price(2, -100000);
        taken(due, "1-2 is the cheapest, but has no way", x, 35, 1);
        due.is("ENDLESS", x.bound(), ENDLESS);
        Towns.lines(x, PART, 1, 2, PRICES, 0, 0, PRICES, 0, 0);
        due.is("nor if it is JOINED", x.check(MAX), -1);
        Desk y = due.desk();
        Towns.light(y, 12);
        due.is("without lanes nothing is taken", y.taken(0), -1);
        due.is("without lanes it is ENDLESS", y.bound(), ENDLESS);
    }

    @Says(promise = 0, value = "(nothing is done if its BOUND is ENDLESS)")
    static void noStepIfTheBoundIsEndless(Due due) {
        Desk x = Towns.litSquare(due);
        x.lamp(20, 3, 0);
        due.is("a hundred steps", x.climb(100), 0);
        prices(due, "they stay", x, 0, 0, 0, 0, 0);
        x.dark(4, true);
        due.is("not endless any more", x.climb(1), 1);
        prices(due, "they climb", x, 0, 0, 1, -1, 0);
    }

    @Says(promise = 0, value = "becomes higher by how many taken pairs it has, less 2.")
    static void aStepByTheTree(Due due) {
        Desk x = Towns.litStar(due, 12);
        // 1 has ten pairs of the tree and one with THE FIRST; 2 two; the others one each.
        due.is("a step", x.climb(1), 1);
        prices(due, "a step", x, 0, 9, 0, -1, -1, -1, -1, -1, -1, -1, -1, -1);
    }

    @Says(promise = 0, value = {"TO CLIMB by a step: by THE TREE of the CASE without pairs", "each LAMP's PRICE that isn't OUT becomes higher"})
    static void whatAStepLeavesOut(Due due) {
        Desk x = Towns.litSquare(due);
        x.lamp(10, 3, 0);
        x.price(4, 50);
        x.dark(4, true);
        Towns.lines(x, PART, 1, 3, PART, 0, 3, PART, 0, 2);
        due.is("a step", x.climb(1), 1);
        // 1-2, 2-3, 0-1, 0-2 are taken, whatever the told PROOF joins.
        prices(due, "one that is out keeps its price", x, 0, 0, 1, -1, 50);
    }

    // ---- proofs

    @Says(promise = 0, value = "A CASE has two sets of pairs of LAMPS that aren't OUT: JOINED ones and PARTED ones.")
    static void aCaseHasNoPairOfOneThatIsOut(Due due) {
        Desk x = Towns.star(due, 5);
        for (int i = 0; i < 5; i++) x.lamp(i, i == 4 ? 3 : 0, 0);
        Towns.lines(x, PART, 0, 1, PART, 1, 4, PRICES, 0, 0, PRICES, 0, 0, PART, 1, 4, PRICES, 0, 0, PRICES, 0, 0);
        due.is("1-4 in both cases", x.check(10), -1);
        x.dark(4, true);
        due.is("4 is out: no pair of it", x.check(8), 1);
        x.dark(4, false);
        due.is("4 is lit again", x.check(10), -1);
    }

    @Says(promise = 0, value = "A PROOF of a length n for a CASE is a row of LINES, op a b; it begins with one of these:")
    static void aProofIsARowOfLines(Due due) {
        Desk x = townOfAllLines(due, 0);
        int lines = x.prove(24);
        for (int n = 0; n < lines; n++) {
            x.prove(24);
            x.cut(n);
            due.is("its first " + n + " end too soon", x.check(24), n);
        }
        due.is("all of them", x.prove(24), lines);
        due.is("right", x.check(24), -1);
        for (int op = PART; op <= TWINS; op++) {
            Towns.lines(x, op, 0, 1);
            due.is("op " + op + " at the CASE without pairs", x.check(21), op == PART ? 1 : op == PRICES ? -1 : 0);
        }
    }

    @Says(promise = 0, value = "1 PART a b: a < b, both not OUT, the pair neither JOINED nor PARTED")
    static void aPartThatCannotStand(Due due) {
        Desk x = Towns.litSquare(due);
        x.lamp(9, 3, 0);
        x.dark(4, true);
        int[][] wrong = {{0, 0}, {3, 3}, {1, 0}, {3, 2}, {-1, 0}, {-2, -1}, {3, 4}, {0, 4}, {4, 5}, {3, 5}, {0, 11}, {0, 12}, {0, 32}, {MIN, 0}, {0, MAX}, {MIN, MAX}, {MAX, MIN}};
        for (int[] w : wrong) {
            Towns.lines(x, PART, w[0], w[1]);
            due.is("PART " + w[0] + " " + w[1], x.check(14), 0);
        }
        Towns.lines(x, PART, 0, 1);
        due.is("the least pair", x.check(14), 1);
        Towns.lines(x, PART, 2, 3);
        due.is("the greatest pair", x.check(14), 1);
        Towns.lines(x, PART, 2, 3, PART, 2, 3);
        due.is("JOINED already", x.check(14), 1);
        Towns.lines(x, PART, 2, 3, PRICES, 0, 0, PART, 2, 3);
        due.is("PARTED already", x.check(14), 2);
    }

    @Says(promise = 0, value = "behind it a PROOF for the CASE with the pair JOINED, too, then one for the CASE with it PARTED, too")
    static void aPairIsFreeAgainInTheOtherCase(Due due) {
        Desk x = Towns.litSquare(due);
        Towns.lines(x, PART, 0, 1, PART, 0, 2, PRICES, 0, 0, PRICES, 0, 0, PART, 0, 2, PRICES, 0, 0, FEW, 0, 0);
        due.is("0-2 is free again", x.check(14), -1);
        x.alter(6, FEW, 2, 0);
        due.is("2 isn't: it has 1 and 3", x.check(14), 6);
    }

    @Says(promise = 0, value = "2 PRICES: THE BOUND of the CASE is ENDLESS or n or more.")
    static void pricesAtTheBound(Due due) {
        Desk x = Towns.litSquare(due);
        Towns.lines(x, PRICES, 0, 0);
        due.is("n 0", x.check(0), -1);
        due.is("the bound less one", x.check(13), -1);
        due.is("the bound", x.check(14), -1);
        due.is("the bound and one", x.check(15), 0);
        due.is("the greatest", x.check(MAX), 0);
        x.price(0, -100000);
        x.price(1, -100000);
        x.price(2, 100000);
        x.price(3, 100000);
        due.is("a bound below nought", x.bound(), 17 - 200000);
        due.is("a bound below nought, n 0", x.check(0), 0);
        x.lamp(20, 0, 0);
        due.is("ENDLESS, the greatest", x.check(MAX), -1);
        due.is("ENDLESS, n 0", x.check(0), -1);
    }

    @Says(promise = 0, value = "3 FEW a: a isn't OUT, and fewer than two pairs of it with others that aren't OUT are not PARTED.")
    static void fewIsFewerThanTwo(Due due) {
        Desk x = Towns.litSquare(due);
        x.lamp(9, 3, 0);
        x.dark(4, true);
        Towns.lines(x, FEW, 0, 0);
        due.is("three are left", x.check(14), 0);
        Towns.lines(x, PART, 0, 1, PRICES, 0, 0, FEW, 0, 0);
        due.is("two are left", x.check(14), 2);
        Towns.lines(x, PART, 0, 1, PRICES, 0, 0, PART, 0, 2, PRICES, 0, 0, FEW, 0, 0);
        due.is("one is left", x.check(14), -1);
        for (int a : new int[] {1, 2, 3, 4, 5, -1, 12, 32, MIN, MAX}) {
            x.alter(4, FEW, a, 0);
            due.is("FEW " + a, x.check(14), 4);
        }
        Towns.lines(x, PART, 0, 1, PRICES, 0, 0, PART, 0, 2, PRICES, 0, 0, PART, 0, 3, PRICES, 0, 0, FEW, 0, 0);
        due.is("none is left", x.check(14), -1);
        Towns.lines(x, PART, 0, 1, PART, 0, 2, FEW, 0, 0);
        due.is("JOINED ones are not PARTED", x.check(14), 2);
        Desk y = Towns.litStar(due, 3);
        Towns.lines(y, PART, 0, 1, PRICES, 0, 0, FEW, 1, 0);
        due.is("of three lamps one pair is enough", y.check(6), -1);
        y.alter(2, FEW, 2, 0);
        due.is("but not for the third", y.check(6), 2);
    }

    @Says(promise = 0, value = "4 MANY a: a isn't OUT, and more than two pairs of it are JOINED.")
    static void manyIsMoreThanTwo(Due due) {
        Desk x = Towns.litStar(due, 5);
        Towns.lines(x, MANY, 0, 0);
        due.is("none", x.check(0), 0);
        Towns.lines(x, PART, 0, 1, PART, 0, 2, MANY, 0, 0);
        due.is("two", x.check(0), 2);
        Towns.lines(x, PART, 0, 1, PART, 0, 2, PART, 0, 3, MANY, 0, 0);
        due.is("three stand", x.check(0), 4);
        for (int a : new int[] {1, 4, 5, -1, 12, 32, MIN, MAX}) {
            x.alter(3, MANY, a, 0);
            due.is("MANY " + a, x.check(0), 3);
        }
        Towns.lines(x, PART, 0, 1, PART, 0, 2, PART, 0, 3, PART, 0, 4, MANY, 0, 0);
        due.is("all four stand", x.check(0), 5);
        Towns.lines(x, PART, 0, 4, PART, 1, 4, PART, 2, 4, MANY, 4, 0);
        due.is("of the greater lamp", x.check(0), 4);
    }

    @Says(promise = 0, value = "5 RING a: a isn't OUT; a and all LAMPS to which one comes from it by JOINED pairs have just two JOINED pairs each, and they are not all LAMPS that aren't OUT.")
    static void aRingThatIsNotAll(Due due) {
        Desk x = Towns.litStar(due, 5);
        Towns.lines(x, RING, 0, 0);
        due.is("nothing is JOINED", x.check(0), 0);
        Towns.lines(x, PART, 0, 1, RING, 0, 0);
        due.is("one pair", x.check(0), 1);
        Towns.lines(x, PART, 0, 1, PART, 1, 2, RING, 1, 0);
        due.is("a has two, but its neighbours not", x.check(0), 2);
        Towns.lines(x, PART, 0, 1, PART, 1, 2, PART, 0, 2, RING, 0, 0);
        due.is("three of five", x.check(0), 4);
        for (int a : new int[] {1, 2}) {
            x.alter(3, RING, a, 0);
            due.is("from " + a, x.check(0), 4);
        }
        for (int a : new int[] {3, 4, 5, -1, 12, 32, MIN, MAX}) {
            x.alter(3, RING, a, 0);
            due.is("RING " + a, x.check(0), 3);
        }
        Towns.lines(x, PART, 0, 1, PART, 1, 2, PART, 0, 2, PART, 3, 4, RING, 0, 0);
        due.is("another pair beside it counts nothing", x.check(0), 5);
        Towns.lines(x, PART, 0, 1, PART, 1, 2, PART, 0, 2, PART, 2, 3, RING, 0, 0);
        due.is("one of it has three", x.check(0), 4);
        Towns.lines(x, PART, 0, 1, PART, 1, 2, PART, 2, 3, PART, 0, 3, RING, 3, 0);
        due.is("four of five", x.check(0), 5);
        Towns.lines(x, PART, 0, 1, PART, 1, 2, PART, 2, 3, PART, 3, 4, PART, 0, 4, RING, 0, 0);
        due.is("all five", x.check(0), 5);
    }

    @Says(promise = 0, value = "a and all LAMPS to which one comes from it by JOINED pairs have just two JOINED pairs each")
    static void aRingOfTheLastLamp(Due due) {
        Desk x = Towns.litStar(due, 12);
        Towns.lines(x, PART, 0, 11, PART, 10, 11, RING, 11, 0);
        due.is("its neighbours have one pair each", x.check(0), 2);
        Towns.lines(x, PART, 0, 11, PART, 10, 11, PART, 0, 10, RING, 11, 0);
        due.is("three", x.check(0), 4);
        for (int i = 0; i < 2; i++) {
            x.alter(3, RING, 10 * i, 0);
            due.is("from another of the three", x.check(0), 4);
        }
        x.cut(0);
        for (int i = 1; i < 11; i++) x.line(PART, i, i + 1);
        x.line(RING, 6, 0);
        due.is("a chain of eleven", x.check(0), 10);
        x.alter(10, PART, 1, 11);
        x.line(RING, 6, 0);
        due.is("a ring of eleven", x.check(0), 12);
        x.alter(11, RING, 11, 0);
        due.is("a ring of eleven from the last", x.check(0), 12);
        x.alter(11, RING, 0, 0);
        due.is("not from the twelfth", x.check(0), 11);
    }

    @Says(promise = 0, value = "and they are not all LAMPS that aren't OUT")
    static void aRingWithoutThoseThatAreOut(Due due) {
        Desk x = Towns.star(due, 4);
        for (int i = 0; i < 4; i++) x.lamp(i, i == 3 ? 4 : 0, 0);
        Towns.lines(x, PART, 0, 1, PART, 1, 2, PART, 0, 2, RING, 0, 0);
        due.is("three of four", x.check(0), 4);
        x.dark(3, true);
        due.is("the fourth is out: they are all", x.check(0), 3);
    }

    @Says(promise = 0, value = "6 TWINS a b: a and b aren't OUT, one is the other's TWIN, and the pair is PARTED.")
    static void twinsThatCannotStand(Due due) {
        Desk x = Towns.star(due, 4);
        x.lamp(0, 0, 0);
        x.lamp(1, 3, 0);
        x.lamp(2, 1, 0);
        x.lamp(3, 1, 1);
        Towns.lines(x, TWINS, 0, 2);
        due.is("not PARTED", x.check(0), 0);
        Towns.lines(x, PART, 0, 2, TWINS, 0, 2);
        due.is("JOINED", x.check(0), 1);
        Towns.lines(x, PART, 0, 2, PRICES, 0, 0, TWINS, 0, 2);
        due.is("PARTED", x.check(0), -1);
        x.alter(2, TWINS, 2, 0);
        due.is("the other way about", x.check(0), -1);
        int[][] wrong = {{0, 0}, {2, 2}, {0, 1}, {1, 3}, {0, 3}, {2, 3}, {0, -1}, {-1, 2}, {0, 4}, {4, 2}, {0, 12}, {0, 34}, {32, 2}, {MIN, 2}, {0, MAX}, {MAX, MIN}};
        for (int[] w : wrong) {
            x.alter(2, TWINS, w[0], w[1]);
            due.is("TWINS " + w[0] + " " + w[1], x.check(0), 2);
        }
        Towns.lines(x, PART, 0, 3, PRICES, 0, 0, TWINS, 0, 3);
        due.is("PARTED, but no TWINS", x.check(0), 2);
        Towns.lines(x, PART, 1, 3, PRICES, 0, 0, TWINS, 1, 3);
        due.is("the twin of one that may be out", x.check(0), -1);
        x.dark(1, true);
        due.is("it is out: PART itself can't stand", x.check(0), 0);
    }

    @Says(promise = 0, value = "one is the other's TWIN")
    static void aCornersTwinChangesWithTheLanes(Due due) {
        Desk x = due.desk();
        x.lane(0, 1, 5);
        x.lane(0, 2, 6);
        x.lane(1, 2, 6);
        x.lamp(0, 2, 0);
        x.lamp(1, 0, 0);
        x.lamp(2, 0, 0);
        Towns.lines(x, PART, 0, 1, PRICES, 0, 0, TWINS, 1, 0);
        due.is("1 is nearest", x.check(17), -1);
        x.open(0, false);
        due.is("2 is nearest", x.check(17), 2);
        Towns.lines(x, PART, 0, 2, PRICES, 0, 0, TWINS, 0, 2);
        due.is("2 is nearest", x.check(17), -1);
    }

    @Says(promise = 0, value = "(What isn't named counts nothing.)")
    static void whatIsNotNamedCountsNothing(Due due) {
        Desk x = Towns.litSquare(due);
        Towns.lines(x, PRICES, MIN, MAX);
        due.is("PRICES", x.check(14), -1);
        Towns.lines(x, PART, 0, 1, PRICES, 77, -77, PART, 0, 2, PRICES, 4, 4, FEW, 0, MAX);
        due.is("FEW", x.check(14), -1);
        Towns.lines(x, PART, 0, 1, PART, 0, 2, PART, 0, 3, MANY, 0, MIN);
        due.is("MANY", x.check(14), 4);
        Towns.lines(x, PART, 0, 1, PART, 0, 2, PART, 1, 2, RING, 0, -1);
        due.is("RING", x.check(14), 4);
    }

    @Says(promise = 0, value = "how many LINES there are, if all can, but it ends too soon; the first one behind a PROOF")
    static void tooSoonAndTooLate(Due due) {
        Desk x = Towns.litSquare(due);
        due.is("no lines at all", x.check(14), 0);
        Towns.lines(x, PART, 0, 1);
        due.is("one", x.check(14), 1);
        x.line(PRICES, 0, 0);
        due.is("two", x.check(14), 2);
        x.line(PRICES, 0, 0);
        due.is("three are right", x.check(14), -1);
        x.line(PRICES, 0, 0);
        due.is("one behind", x.check(14), 3);
        x.line(PART, 0, 0);
        due.is("the first one behind", x.check(14), 3);
        x.alter(1, FEW, 0, 0);
        due.is("one ahead that can't stand", x.check(14), 1);
        x.cut(3);
        due.is("right but for that one", x.check(14), 1);
    }

    @Says(promise = 0, value = "a PROOF for the CASE with the pair JOINED, too")
    static void aProofThatPartsAllPairs(Due due) {
        Desk x = Towns.litStar(due, 12);
        for (int a = 0; a < 12; a++) for (int b = a + 1; b < 12; b++) x.line(PART, a, b);
        due.is("66 JOINED, one in another", x.check(0), 66);
        x.line(PART, 0, 1);
        due.is("no pair is left", x.check(0), 66);
        x.cut(66);
        for (int k = 0; k < 67; k++) x.line(PRICES, 0, 0);
        due.is("133 lines are right for 0", x.check(0), -1);
        x.alter(66, MANY, 11, 0);
        due.is("all JOINED: MANY stands too", x.check(0), -1);
        x.alter(67, MANY, 11, 0);
        due.is("and with the last one PARTED", x.check(0), -1);
        x.alter(132, MANY, 0, 0);
        due.is("0-1 PARTED alone: it doesn't", x.check(0), 132);
        x.cut(132);
        due.is("one too few", x.check(0), 132);
    }

    @Says(promise = 0, value = "then one for the CASE with it PARTED, too")
    static void aProofThatPartsAllPairsOneByOne(Due due) {
        Desk x = Towns.litStar(due, 12);
        for (int a = 0; a < 12; a++) {
            for (int b = a + 1; b < 12; b++) {
                x.line(PART, a, b);
                x.line(PRICES, 0, 0);
            }
        }
        due.is("66 PARTED one behind another", x.check(0), 132);
        x.line(PART, 10, 11);
        due.is("no pair is left", x.check(0), 132);
        x.cut(132);
        x.line(FEW, 11, 0);
        due.is("none has a pair", x.check(0), -1);
        x.alter(132, PRICES, 0, 0);
        due.is("and ENDLESS it is", x.check(0), -1);
        x.line(FEW, 11, 0);
        due.is("one behind it", x.check(0), 133);
    }

    @Says(promise = 0, value = "TO PROVE n: at a CASE, the first of these that can stand is written: TWINS a b with the least a, then the least b; FEW with the least a; MANY with the least a; RING with the least a; PRICES; else PART of the pair")
    static void aProofWithEachKindOfLine(Due due) {
        Desk x = townOfAllLines(due, 0);
        due.is("the tree", x.bound(), 21);
        due.is("lines", x.prove(24), 19);
        due.lines("each", x,
                PART, 0, 1, PART, 2, 3, PART, 0, 4, PART, 1, 4, RING, 0, 0,
                PART, 2, 4, PART, 1, 2, MANY, 2, 0, PRICES, 0, 0,
                PART, 1, 2, PART, 3, 4, PART, 0, 2, MANY, 0, 0, TWINS, 0, 2, FEW, 4, 0,
                PRICES, 0, 0,
                PRICES, 0, 0, PRICES, 0, 0, TWINS, 0, 1);
        due.is("right for 24", x.check(24), -1);
        due.is("and for less", x.check(0), -1);
        due.is("not for 26: 25 with 1-2 PARTED", x.check(26), 8);
    }

    @Says(promise = 0, value = "If there is no such pair, or a 401st LINE would be written, it is SPENT.")
    static void spentWithoutAPair(Due due) {
        Desk x = Towns.litStar(due, 3);
        due.is("its only round", x.prove(6), 1);
        x.line(FEW, 1, 2);
        // All three pairs JOINED: no ring that isn't all, no pair to part.
        due.is("one more", x.prove(7), LampRound.SPENT);
        due.lines("the told PROOF stays", x, PRICES, 0, 0, FEW, 1, 2);
        Desk y = Towns.litStar(due, 12);
        due.is("its rounds", y.prove(24), 1);
        // It comes to a round of all twelve, all other pairs PARTED: no pair of 66 is left.
        due.is("one more", y.prove(25), LampRound.SPENT);
        due.lines("the told PROOF stays", y, PRICES, 0, 0);
    }

    @Says(promise = 0, value = "a 401st LINE would be written")
    static void aProofOf399LinesAndOneOf401(Due due) {
        Desk x = townOf399(due);
        due.is("just 399", x.prove(43), 399);
        due.is("right", x.check(43), -1);
        due.is("the longer one is spent", x.prove(44), LampRound.SPENT);
        due.is("it stays", x.many(3), 399);
        due.is("the shorter one", x.prove(42), 355);
        Desk y = townOf401(due);
        due.is("ahead of it", y.prove(52), 367);
        due.is("401 are spent, though there is a proof", y.prove(53), LampRound.SPENT);
        due.is("it stays", y.many(3), 367);
        due.is("right for 52", y.check(52), -1);
        due.is("53 is the least round", y.least(), 53);
    }

    // ---- price, climb, bound, taken

    @Says(promise = 27, value = "The PRICE of a LAMP: 1. NUMBER: there is none such, or v isn't -100000 to 100000.")
    static void pricesThatMayNotBe(Due due) {
        Desk x = due.desk();
        due.is("none at all", x.price(0, 0), LampRound.NUMBER);
        Towns.light(x, 3);
        for (int none : new int[] {-1, 3, 11, 12, MIN, MAX}) due.is("lamp " + none, x.price(none, 0), LampRound.NUMBER);
        for (int v : new int[] {-100001, 100001, MIN, MAX}) due.is("v " + v, x.price(1, v), LampRound.NUMBER);
        prices(due, "refused ones", x, 0, 0, 0);
        due.is("the least", x.price(0, -100000), 1);
        due.is("the greatest", x.price(2, 100000), 1);
        prices(due, "both edges", x, -100000, 0, 100000);
        due.is("nought again", x.price(0, 0), 1);
        prices(due, "nought again", x, 0, 0, 100000);
    }

    @Says(promise = 28, value = "NUMBER: n isn't 1 to 100; STATE: fewer than three LAMPS aren't OUT.")
    static void climbRefused(Due due) {
        Desk x = Towns.litStar(due, 4);
        for (int n : new int[] {0, -1, 101, MIN, MAX}) due.is("n " + n, x.climb(n), LampRound.NUMBER);
        prices(due, "refused ones", x, 0, 0, 0, 0);
        Desk y = pair(due);
        due.is("two that aren't out", y.climb(1), LampRound.STATE);
        due.is("two that aren't out", y.climb(100), LampRound.STATE);
        due.is("NUMBER ahead of STATE", y.climb(0), LampRound.NUMBER);
        due.is("NUMBER ahead of STATE", y.climb(101), LampRound.NUMBER);
        y.dark(2, false);
        due.is("three", y.climb(1), 1);
        due.is("none", due.desk().climb(1), LampRound.STATE);
    }

    @Says(promise = 28, value = "CLIMBS by n steps: how many of these did something.")
    static void climbByOneAndByAHundred(Due due) {
        Desk x = Towns.litStar(due, 5);
        due.is("a hundred at once", x.climb(100), 100);
        Desk y = Towns.litStar(due, 5);
        for (int i = 0; i < 100; i++) due.is("one by one", y.climb(1), 1);
        for (int l = 0; l < 5; l++) due.is("the same price of " + l, x.of(l, 4), y.of(l, 4));
        due.is("the same bound", x.bound() - y.bound(), 0);
        Desk z = Towns.litSquare(due);
        for (int l = 0; l < 4; l++) z.price(l, 100000);
        due.is("above what may be told", z.climb(1), 1);
        prices(due, "above what may be told", z, 100000, 100000, 100001, 99999);
        for (int l = 0; l < 4; l++) z.price(l, -100000);
        due.is("below what may be told", z.climb(1), 1);
        prices(due, "below what may be told", z, -100000, -100000, -99999, -100001);
    }

    @Says(promise = 29, value = "THE BOUND of the CASE without pairs; 2^62 if it is ENDLESS; STATE is answered as -2^62 here: fewer than three LAMPS aren't OUT.")
    static void boundEndlessAndRefused(Due due) {
        due.is("none", due.desk().bound(), -ENDLESS);
        Desk x = pair(due);
        due.is("two that aren't out", x.bound(), -ENDLESS);
        x.dark(2, false);
        due.is("three", x.bound(), 6);
        x.open(2, false);
        due.is("one is apart", x.bound(), ENDLESS);
        x.open(2, true);
        x.open(0, false);
        due.is("THE FIRST is apart", x.bound(), ENDLESS);
        x.dark(2, true);
        due.is("STATE, not ENDLESS", x.bound(), -ENDLESS);
    }

    @Says(promise = 30, value = "Pair i (from 0 on) that THE TREE of the CASE without pairs takes, in the order in which it is taken (those of THE FIRST last): 16 times the lesser LAMP and the greater one")
    static void takenByPrice(Due due) {
        Desk x = Towns.litSquare(due);
        taken(due, "1-2 3, 2-3 4, 0-1 2, 0-2 5", x, 18, 35, 1, 2);
        x.price(3, -6);
        taken(due, "2-3 -2, 1-3 1, 0-3 -1, 0-1 2", x, 35, 19, 3, 1);
        Desk y = Towns.litStar(due, 12);
        y.price(10, -2);
        y.price(11, -2);
        due.is("the greatest pair", y.taken(0), 16 * 10 + 11);
    }

    @Says(promise = 30, value = "-1: there is none such, or fewer than three LAMPS aren't OUT.")
    static void takenOfNone(Due due) {
        Desk x = pair(due);
        for (int i = -1; i < 3; i++) due.is("two that aren't out, i " + i, x.taken(i), -1);
        x.dark(2, false);
        taken(due, "three", x, 18, 1, 2);
        for (int i : new int[] {-1, 3, 11, 12, MIN, MAX}) due.is("i " + i, x.taken(i), -1);
        Desk y = Towns.litStar(due, 12);
        due.is("the last of twelve", y.taken(11), 2);
        due.is("behind it", y.taken(12), -1);
        due.is("none", due.desk().taken(0), -1);
        Desk z = due.desk();
        z.lane(0, 1, 4);
        Towns.light(z, 3);
        taken(due, "ENDLESS: what is taken all the same", z, 1);
    }

    // ---- prove, line, alter, cut, shown, check

    @Says(promise = 31, value = "NUMBER: n is below 0; STATE: fewer than three LAMPS aren't OUT; SPENT.")
    static void proveRefused(Due due) {
        Desk x = Towns.litStar(due, 4);
        due.is("-1", x.prove(-1), LampRound.NUMBER);
        due.is("the least", x.prove(MIN), LampRound.NUMBER);
        due.is("0", x.prove(0), 1);
        due.is("the round", x.prove(8), 1);
        due.is("one more", x.prove(9), LampRound.SPENT);
        due.is("the greatest", x.prove(MAX), LampRound.SPENT);
        due.lines("it stays", x, PRICES, 0, 0);
        Desk y = pair(due);
        due.is("two that aren't out", y.prove(0), LampRound.STATE);
        due.is("STATE, whatever n", y.prove(MAX), LampRound.STATE);
        due.is("NUMBER ahead of STATE", y.prove(-1), LampRound.NUMBER);
        y.dark(2, false);
        due.is("three", y.prove(6), 1);
        y.open(0, false);
        due.is("ENDLESS: the greatest", y.prove(MAX), 1);
    }

    @Says(promise = 31, value = "n is PROVED: how many LINES; these become the told PROOF")
    static void proveTakesThePlaceOfWhatWasTold(Due due) {
        Desk x = Towns.litStar(due, 4);
        for (int i = 0; i < 400; i++) x.line(FEW, 9, 9);
        due.is("instead of four hundred", x.prove(8), 1);
        due.lines("one", x, PRICES, 0, 0);
        due.is("behind it", x.shown(1, 0), MIN);
        due.is("a line behind it", x.line(MANY, 5, 6), 2);
        due.lines("two", x, PRICES, 0, 0, MANY, 5, 6);
    }

    @Says(promise = 32, value = "NUMBER: op isn't 1 to 6; FULL: there are 400.")
    static void fourHundredLinesAreFull(Due due) {
        Desk x = due.desk();
        for (int op : new int[] {0, -1, 7, MIN, MAX}) due.is("op " + op, x.line(op, 0, 0), LampRound.NUMBER);
        due.is("none came", x.many(3), 0);
        for (int i = 0; i < 400; i++) due.is("how many", x.line(1 + i % 6, i, -i), i + 1);
        due.is("one more", x.line(1, 0, 0), LampRound.FULL);
        for (int op : new int[] {0, 7}) due.is("NUMBER ahead of FULL", x.line(op, 0, 0), LampRound.NUMBER);
        int[] want = {1 + 399 % 6, 399, -399};
        for (int what = 0; what < 3; what++) due.is("the last", x.shown(399, what), want[what]);
        due.is("none behind it", x.shown(400, 0), MIN);
        due.is("the last may be altered", x.alter(399, 6, 1, 2), 1);
        due.is("no other", x.alter(400, 6, 1, 2), LampRound.NUMBER);
        due.is("cut by one", x.cut(399), 399);
        due.is("room for one", x.line(5, 8, 9), 400);
        due.is("no more", x.line(5, 8, 9), LampRound.FULL);
        due.is("all", x.cut(400), 400);
        due.is("more than all", x.cut(401), LampRound.NUMBER);
    }

    @Says(promise = 32, value = "A LINE comes to the end of the told PROOF: how many.")
    static void aLineTakesAnyNumbers(Due due) {
        Desk x = due.desk();
        due.is("the greatest and the least", x.line(1, MAX, MIN), 1);
        due.is("without lamps", x.line(6, -1, 12), 2);
        due.lines("as they came", x, 1, MAX, MIN, 6, -1, 12);
    }

    @Says(promise = 33, value = "LINE i of the told PROOF becomes another one: 1. NUMBER: there is none such, or op isn't 1 to 6.")
    static void alterRefused(Due due) {
        Desk x = due.desk();
        due.is("none at all", x.alter(0, 1, 0, 0), LampRound.NUMBER);
        Towns.lines(x, 1, 10, 11, 2, 20, 21, 3, 30, 31);
        for (int i : new int[] {-1, 3, 399, 400, MIN, MAX}) due.is("i " + i, x.alter(i, 1, 0, 0), LampRound.NUMBER);
        for (int op : new int[] {0, -1, 7, MIN, MAX}) due.is("op " + op, x.alter(1, op, 0, 0), LampRound.NUMBER);
        due.is("neither", x.alter(3, 7, 0, 0), LampRound.NUMBER);
        due.lines("refused ones", x, 1, 10, 11, 2, 20, 21, 3, 30, 31);
        due.is("the first", x.alter(0, 6, MIN, MAX), 1);
        due.is("the last", x.alter(2, 1, -1, 0), 1);
        due.lines("both", x, 6, MIN, MAX, 2, 20, 21, 1, -1, 0);
    }

    @Says(promise = 34, value = "The told PROOF keeps its first n LINES: n. NUMBER: it has not so many, or n is below 0.")
    static void cutRefused(Due due) {
        Desk x = due.desk();
        due.is("0 of none", x.cut(0), 0);
        due.is("1 of none", x.cut(1), LampRound.NUMBER);
        due.is("-1 of none", x.cut(-1), LampRound.NUMBER);
        Towns.lines(x, 1, 10, 11, 2, 20, 21, 3, 30, 31);
        for (int n : new int[] {4, 400, 401, MAX, -1, MIN}) due.is("n " + n, x.cut(n), LampRound.NUMBER);
        due.is("all", x.cut(3), 3);
        due.lines("all", x, 1, 10, 11, 2, 20, 21, 3, 30, 31);
        due.is("all but one", x.cut(2), 2);
        due.lines("all but one", x, 1, 10, 11, 2, 20, 21);
        due.is("what is cut doesn't come again", x.cut(3), LampRound.NUMBER);
        due.is("none", x.cut(0), 0);
        due.lines("none", x);
    }

    @Says(promise = 35, value = "Of LINE i of the told PROOF op (what = 0), a (1), b (2); NUMBER is answered as -2^31 here: there is none such, another what.")
    static void shownOfNone(Due due) {
        Desk x = due.desk();
        due.is("none at all", x.shown(0, 0), MIN);
        Towns.lines(x, 1, 10, 11, 2, 20, 21);
        for (int i : new int[] {-1, 2, 399, 400, MIN, MAX}) for (int w = 0; w < 3; w++) due.is("i " + i, x.shown(i, w), MIN);
        for (int w : new int[] {-1, 3, MIN, MAX}) due.is("what " + w, x.shown(1, w), MIN);
        due.is("the first", x.shown(0, 0), 1);
        due.is("the last", x.shown(1, 2), 21);
    }

    @Says(promise = 35, value = "(Of LINES that prove() wrote what isn't named is 0.)")
    static void whatProveDoesNotNameIsNought(Due due) {
        Desk x = townOf399(due);
        for (int i = 0; i < 160; i++) x.line(TWINS, 7, 7);
        x.prove(39);
        int lines = x.many(3);
        due.is("lines", lines, 209);
        for (int i = 50; i < 160; i++) {
            int op = x.shown(i, 0);
            if (op == PRICES) due.is("PRICES a", x.shown(i, 1), 0);
            if (op >= PRICES && op <= RING) due.is("op " + op + " b", x.shown(i, 2), 0);
        }
    }

    @Says(promise = 36, value = "NUMBER is answered as -2 here: n is below 0; STATE: fewer than three LAMPS aren't OUT.")
    static void checkRefused(Due due) {
        Desk x = Towns.litStar(due, 3);
        Towns.lines(x, PRICES, 0, 0);
        due.is("-1", x.check(-1), -2);
        due.is("the least", x.check(MIN), -2);
        due.is("0", x.check(0), -1);
        due.is("its round", x.check(6), -1);
        due.is("one more", x.check(7), 0);
        due.is("the greatest", x.check(MAX), 0);
        Desk y = pair(due);
        y.line(PRICES, 0, 0);
        due.is("two that aren't out", y.check(0), LampRound.STATE);
        due.is("n ahead of STATE", y.check(-1), -2);
        y.dark(2, false);
        due.is("three", y.check(0), -1);
        due.is("none", due.desk().check(0), LampRound.STATE);
    }

    @Says(promise = 36, value = "-1 if the told PROOF is RIGHT for n, else its WRONG LINE.")
    static void checkOfAsManyLinesAsMayBe(Due due) {
        Desk x = townOf399(due);
        x.prove(43);
        due.is("399 are right", x.check(43), -1);
        due.is("right for less", x.check(0), -1);
        due.is("the four hundredth", x.line(PRICES, 0, 0), 400);
        due.is("one behind the proof", x.check(43), 399);
        x.cut(398);
        due.is("one too few", x.check(43), 398);
        x.line(RING, 0, 0);
        due.is("another one at the end", x.check(43), 398);
        x.cut(398);
        // The last case is that of the pair which was parted first, PARTED: 3-5 2, the nearest.
        due.is("what was parted first", 16 * x.shown(0, 1) + x.shown(0, 2), 16 * 3 + 5);
        x.line(PRICES, 9, 9);
        due.is("PRICES there", x.check(33), -1);
    }

    @Says(promise = 36, value = "-1 if the told PROOF is RIGHT for n, else its WRONG LINE.")
    static void checkChangesNothing(Due due) {
        Desk x = Towns.litSquare(due);
        x.price(1, 3);
        Towns.tell(x, 2, 1);
        Towns.lines(x, PART, 0, 1, PRICES, 5, 6, FEW, 7, 8);
        due.is("wrong", x.check(0), 2);
        due.is("wrong still", x.check(0), 2);
        due.lines("the lines", x, PART, 0, 1, PRICES, 5, 6, FEW, 7, 8);
        prices(due, "the prices", x, 0, 3, 0, 0);
        due.round("the told round", x, 2, 1);
        // 2-3 4, 1-2 6, 0-1 5, 0-2 5, less twice 3.
        due.is("the case without pairs is as it was", x.bound(), 14);
        taken(due, "the case without pairs is as it was", x, 35, 18, 1, 2);
    }
}
