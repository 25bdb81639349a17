import java.io.IOException;

/** The edges of Terms 2 as far as it tells of ROUNDS, of Terms 3, and of promises 17 to 26. */
public final class RoundsEdgesTest {
    private static final int MIN = Integer.MIN_VALUE;
    private static final int MAX = Integer.MAX_VALUE;

    /**
     * Lanes between all twelve lamps, by the lesser, then by the greater; none is longer than two
     * others together, so each is a WAY. The name tells how many turns better() finds from 0 1 .. 11.
     */
    private static final int[] TURNS_99 = {
        986, 618, 858, 579, 745, 500, 583, 566, 958, 750, 990, 947, 978, 846, 981, 751, 650, 752, 963, 829, 517, 795,
        572, 816, 522, 581, 609, 777, 753, 650, 813, 609, 500, 760, 614, 754, 636, 903, 662, 826, 614, 672, 740, 712,
        586, 737, 644, 644, 709, 570, 953, 925, 621, 693, 634, 635, 858, 777, 675, 595, 783, 676, 545, 939, 609, 945};
    private static final int[] TURNS_100 = {
        594, 602, 913, 737, 697, 579, 682, 731, 673, 639, 974, 891, 905, 858, 562, 542, 526, 814, 755, 758, 751, 920,
        610, 575, 573, 550, 833, 635, 753, 629, 950, 838, 935, 785, 755, 538, 677, 517, 748, 609, 729, 771, 674, 830,
        680, 565, 840, 871, 633, 735, 587, 769, 764, 924, 735, 713, 979, 613, 927, 500, 876, 592, 525, 788, 691, 801};
    private static final int[] TURNS_101 = {
        639, 745, 707, 846, 843, 643, 684, 589, 951, 772, 935, 856, 813, 790, 717, 662, 756, 672, 697, 614, 763, 886,
        867, 793, 591, 865, 869, 897, 691, 983, 842, 750, 576, 841, 774, 855, 753, 988, 824, 667, 935, 888, 615, 803,
        980, 567, 775, 840, 812, 547, 663, 968, 611, 605, 985, 900, 713, 569, 650, 508, 881, 802, 929, 897, 635, 913};
    private static final int[] TURNS_110 = {
        567, 552, 656, 834, 505, 760, 659, 659, 950, 805, 851, 645, 667, 869, 517, 853, 698, 619, 898, 867, 985, 701,
        799, 819, 915, 697, 500, 828, 571, 756, 966, 582, 917, 795, 908, 952, 704, 1000, 888, 952, 750, 601, 910, 769,
        578, 926, 739, 769, 840, 687, 838, 966, 728, 967, 567, 500, 788, 790, 667, 773, 934, 540, 964, 821, 518, 945};

    public static void main(String[] args) throws IOException, IllegalAccessException {
        Sentences.hold(RoundsEdgesTest.class);
    }

    /** The square with lamp 3 a TWIN of lamp 1; rounds that keep them: 0 1 3 2 has 18, 0 2 1 3 has 20. */
    private static Desk twinSquare(Due due) {
        Desk x = Towns.square(due);
        Towns.light(x, 3);
        x.lamp(3, 1, 1);
        return x;
    }

    /** Lamps 0 to n - 1 on a line of lanes of 1. */
    private static Desk line(Due due, int n) {
        Desk x = due.desk();
        for (int i = 0; i + 1 < n; i++) x.lane(i, i + 1, 1);
        return x;
    }

    /** Two lamps, both told: too few for a ROUND. */
    private static Desk pair(Due due) {
        Desk x = Towns.litStar(due, 2);
        Towns.tell(x, 0, 1);
        return x;
    }

    // ---- what a round is

    @Says(promise = 0, value = "A ROUND is an order of all LAMPS that aren't OUT (at least three)")
    static void twoLampsAreNoRound(Due due) {
        Desk x = Towns.star(due, 3);
        due.is("none", x.least(), LampRound.NEVER);
        x.lamp(0, 0, 0);
        due.is("one", x.least(), LampRound.NEVER);
        x.lamp(1, 0, 0);
        due.is("two", x.least(), LampRound.NEVER);
        due.is("two, side by side", x.with(0, 1, true), LampRound.NEVER);
        due.is("two, apart", x.with(0, 1, false), LampRound.NEVER);
        x.lamp(2, 3, 0);
        due.is("three", x.least(), 6);
        x.dark(2, true);
        due.is("two that aren't out", x.least(), LampRound.NEVER);
    }

    @Says(promise = 0, value = "closed: the last one and the first one are neighbours, too")
    static void theLastAndTheFirstAreNeighbours(Due due) {
        Desk x = twinSquare(due);
        Towns.tell(x, 1, 0, 2, 3);
        due.is("length", x.length(), 2 + 5 + 4 + 7);
        due.is("keeps", x.keeps(), 1);
        due.is("with", x.with(1, 3, true), 18);
        Desk y = Towns.litSquare(due);
        due.is("0 and 3 in 0 1 2 3", y.with(0, 3, true), 14);
        due.is("not side by side", y.with(0, 3, false), 18);
    }

    @Says(promise = 0, value = "It is written from its least LAMP on, to that neighbour of this first that is less.")
    static void aRoundIsWrittenFromTheLeastLampOn(Due due) {
        Desk x = Towns.square(due);
        x.lamp(3, 0, 0);
        x.lamp(1, 0, 0);
        x.lamp(0, 0, 0);
        x.lamp(2, 0, 0);
        due.is("least", x.least(), 14);
        due.round("crossings 3 0 1 2", x, 0, 2, 1, 3);
        Desk y = Towns.star(due, 5);
        for (int i = 0; i < 5; i++) y.lamp(i, i == 0 ? 3 : 0, 0);
        y.dark(0, true);
        due.is("without 0", y.least(), 8);
        due.round("from 1 on", y, 1, 2, 3, 4);
    }

    @Says(promise = 0, value = "there is no ROUND if some two LAMPS that aren't OUT have no WAY")
    static void noRoundIfTwoLampsHaveNoWay(Due due) {
        Desk x = Towns.star(due, 4);
        for (int i = 0; i < 4; i++) x.lamp(i, 0, 0);
        x.lamp(20, 3, 0);
        due.is("one is apart", x.least(), LampRound.NEVER);
        due.is("with", x.with(0, 1, true), LampRound.NEVER);
        Towns.tell(x, 0, 1, 2, 3, 4);
        due.is("second", x.second(), LampRound.NEVER);
        x.dark(4, true);
        due.is("that one is out", x.least(), 8);
        for (int lane = 0; lane < 4; lane++) {
            x.open(lane, false);
            due.is("lamp " + lane + " is apart", x.least(), LampRound.NEVER);
            x.open(lane, true);
            due.is("lamp " + lane + " isn't", x.least(), 8);
        }
    }

    @Says(promise = 0, value = "It KEEPS TWINS if each LAMP that isn't OUT and has a TWIN that isn't OUT is its neighbour.")
    static void aTwinThatIsOutBindsNothing(Due due) {
        Desk x = Towns.star(due, 5);
        x.lamp(0, 3, 0);
        for (int i = 1; i < 5; i++) x.lamp(i, 1, 0);
        due.is("four twins of one", x.least(), LampRound.NEVER);
        x.dark(0, true);
        due.is("that one is out", x.least(), 8);
        due.is("it keeps them", x.keeps(), 1);
        due.is("no pair is bound", x.with(1, 2, false), 8);
        Desk y = Towns.star(due, 4);
        y.lamp(0, 0, 0);
        y.lamp(1, 1, 0);
        y.lamp(2, 1, 0);
        y.lamp(3, 0, 0);
        due.is("two twins of one may be", y.least(), 8);
        due.round("on both its sides", y, 0, 1, 3, 2);
        due.is("no other", y.second(), LampRound.NEVER);
    }

    @Says(promise = 0, value = "Of two ROUNDS that comes first which has the lesser LAMP where, as they are written, they are first unlike.")
    static void ofRoundsAlikeTheFirst(Due due) {
        Desk x = line(due, 8);
        // On a line each round that goes up and then down has 14.
        for (int i = 0; i < 8; i++) x.lamp(7 - i, 0, 0);
        due.is("least", x.least(), 14);
        due.round("the first", x, 0, 1, 2, 3, 4, 5, 6, 7);
        Desk y = line(due, 5);
        y.lamp(2, 0, 0);
        y.lamp(0, 0, 0);
        y.lamp(4, 0, 0);
        y.lamp(1, 0, 0);
        y.lamp(3, 0, 0);
        due.is("least", y.least(), 8);
        // By crossings 2 0 1 4 3; 2 0 1 3 4 is as short, but 2 comes ahead of 4.
        due.round("the first", y, 0, 1, 3, 2, 4);
    }

    @Says(promise = 0, value = "A town is LARGE if more than 8 LAMPS aren't OUT.")
    static void nineLampsAreLarge(Due due) {
        Desk x = Towns.star(due, 12);
        for (int i = 0; i < 12; i++) x.lamp(i, i < 8 ? 0 : 3, 0);
        for (int i = 8; i < 12; i++) x.dark(i, true);
        due.is("eight of twelve", x.least(), 16);
        due.is("second of eight", x.second(), 16);
        due.is("with of eight", x.with(0, 7, false), 16);
        x.dark(11, false);
        due.is("nine of twelve", x.least(), LampRound.LARGE);
        due.is("with of nine", x.with(0, 7, false), LampRound.LARGE);
        Towns.tell(x, 11, 7, 6, 5, 4, 3, 2, 1, 0);
        due.is("second of nine", x.second(), LampRound.LARGE);
        due.is("length of nine", x.length(), 18);
        due.is("keeps of nine", x.keeps(), 1);
        due.is("turn of nine", x.turn(0, 8), 1);
        due.is("better of nine", x.better(), 0);
        due.is("bound of nine", x.bound(), 18);
    }

    // ---- the told round

    @Says(promise = 0, value = "Its length is the sum of the WAYS of neighbours")
    static void aRoundsLengthGoesByWaysNotByLanes(Due due) {
        Desk x = due.desk();
        x.lane(0, 1, 10);
        x.lane(1, 2, 10);
        x.lane(0, 2, 1000);
        Towns.light(x, 3);
        Towns.tell(x, 0, 1, 2);
        due.is("home by 1", x.length(), 40);
        due.is("least", x.least(), 40);
        x.open(1, false);
        Towns.tell(x, 0, 1, 2);
        due.is("the long lane there and back", x.length(), 2020);
    }

    @Says(promise = 0, value = "THE TOLD ROUND is a row of LAMPS that aren't OUT, each once, or nothing")
    static void theToldRoundHasEachLampOnce(Due due) {
        Desk x = Towns.star(due, 3);
        for (int i = 0; i < 3; i++) x.lamp(i, 3, 0);
        Towns.tell(x, 2, 1, 2, 1, 0, 0);
        due.round("each once", x, 2, 1, 0);
        x.dark(1, true);
        due.round("nothing, since one of it is out", x);
        Towns.tell(x, 2, 1, 0);
        due.round("without the one that is out", x, 2, 0);
    }

    @Says(promise = 0, value = "(at first, and behind each lane(), lay() and lamp() that isn't refused, and each open() and dark() that answers 1)")
    static void whatMakesTheToldRoundNothing(Due due) {
        Desk x = Towns.star(due, 4);
        Towns.light(x, 3);
        x.lamp(3, 3, 0);
        x.row(0, 1, 2);
        Towns.tell(x, 2, 0);
        due.is("lane", x.lane(5, 6, 1), 4);
        due.round("behind lane()", x);
        Towns.tell(x, 2, 0);
        due.is("lay", x.lay(0, 0, 1, 4), 1);
        due.round("behind lay()", x);
        Towns.tell(x, 2, 0);
        due.is("lay of nothing", x.lay(0, 2, 0, 5), 1);
        due.round("behind lay() of nothing", x);
        Towns.tell(x, 2, 0);
        due.is("lamp", x.lamp(7, 0, 0), 4);
        due.round("behind lamp()", x);
        Towns.tell(x, 2, 0);
        due.is("shut", x.open(4, false), 1);
        due.round("behind open() that shuts", x);
        Towns.tell(x, 2, 0);
        due.is("open", x.open(4, true), 1);
        due.round("behind open() that opens", x);
        Towns.tell(x, 2, 0);
        due.is("out", x.dark(3, true), 1);
        due.round("behind dark() of one that isn't in it", x);
        Towns.tell(x, 2, 0);
        due.is("lit", x.dark(3, false), 1);
        due.round("behind dark() that lights", x);
    }

    @Says(promise = 0, value = "behind each lane(), lay() and lamp() that isn't refused, and each open() and dark() that answers 1")
    static void whatLeavesTheToldRound(Due due) {
        Desk x = Towns.star(due, 4);
        Towns.light(x, 3);
        x.lamp(3, 3, 0);
        x.row(0, 1, 2);
        Towns.tell(x, 2, 0);
        x.lane(5, 5, 1);
        due.round("behind lane() that is refused", x, 2, 0);
        x.lay(0, 0, 3, 0);
        x.lay(1, 0, 1, 0);
        due.round("behind lay() that is refused", x, 2, 0);
        x.lamp(0, 0, 0);
        x.lamp(9, 1, 9);
        due.round("behind lamp() that is refused", x, 2, 0);
        due.is("open already", x.open(0, true), 0);
        x.open(9, true);
        due.round("behind open() that answers 0 or is refused", x, 2, 0);
        due.is("lit already", x.dark(3, false), 0);
        x.dark(0, true);
        due.round("behind dark() that answers 0 or is refused", x, 2, 0);
        x.row(0, 1, 5);
        x.cell(0, 0, 7);
        x.lose(0);
        due.round("behind row(), cell() and lose()", x, 2, 0);
        x.price(0, 5);
        x.climb(3);
        due.round("behind price() and climb()", x, 2, 0);
        x.prove(0);
        x.line(2, 0, 0);
        x.alter(0, 3, 0, 0);
        x.check(0);
        x.cut(0);
        due.round("behind a proof's calls", x, 2, 0);
        x.with(0, 1, true);
        x.second();
        x.length();
        x.turn(0, 1);
        x.better();
        due.round("behind refused calls of rounds, and with()", x, 2, 0);
    }

    @Says(promise = 0, value = "TO TURN i, j of it (0 <= i < j < how many there are): what stands at places i + 1 .. j stands in the other order.")
    static void whatATurnReaches(Due due) {
        Desk x = Towns.litStar(due, 5);
        Towns.tell(x, 4, 3, 2, 1, 0);
        x.turn(0, 4);
        due.round("0, 4: all but the first", x, 4, 0, 1, 2, 3);
        x.turn(3, 4);
        due.round("3, 4: the last alone", x, 4, 0, 1, 2, 3);
        x.turn(0, 1);
        due.round("0, 1: the second alone", x, 4, 0, 1, 2, 3);
        x.turn(1, 3);
        due.round("1, 3: two", x, 4, 0, 2, 1, 3);
        x.turn(1, 4);
        due.round("1, 4: three", x, 4, 0, 3, 1, 2);
    }

    // ---- least, second, with

    @Says(promise = 17, value = "that ROUND (the first such) becomes THE TOLD ROUND")
    static void leastTellsItsRound(Due due) {
        Desk x = twinSquare(due);
        Towns.tell(x, 3, 2, 1, 0);
        due.is("least", x.least(), 18);
        due.round("instead of what was told", x, 0, 1, 3, 2);
        x.clear();
        due.is("least again", x.least(), 18);
        due.round("instead of nothing", x, 0, 1, 3, 2);
    }

    @Says(promise = 17, value = "LARGE; NEVER: there is no such ROUND (then THE TOLD ROUND stays).")
    static void leastNeverLeavesTheToldRound(Due due) {
        Desk x = Towns.star(due, 5);
        x.lamp(0, 0, 0);
        for (int i = 1; i < 4; i++) x.lamp(i, 1, 0);
        x.lamp(4, 0, 0);
        Towns.tell(x, 3, 1);
        due.is("no round keeps the twins", x.least(), LampRound.NEVER);
        due.round("it stays", x, 3, 1);
        Desk y = due.desk();
        y.lamp(0, 0, 0);
        y.put(0);
        due.is("too few", y.least(), LampRound.NEVER);
        due.round("it stays", y, 0);
        Desk z = Towns.litStar(due, 9);
        Towns.tell(z, 8, 0);
        due.is("LARGE", z.least(), LampRound.LARGE);
        due.round("it stays", z, 8, 0);
        z.open(0, false);
        due.is("LARGE ahead of NEVER", z.least(), LampRound.LARGE);
    }

    @Says(promise = 17, value = "The least length of a ROUND that KEEPS TWINS")
    static void theLongestLeast(Due due) {
        Desk x = due.desk();
        for (int i = 0; i < 39; i++) x.lane(i, i + 1, 1000);
        for (int i = 0; i < 4; i++) x.lamp(i, 0, 0);
        // Each twin stands at the far end, so the round goes to and fro.
        for (int i = 0; i < 4; i++) x.lamp(39 - i, 1, i);
        // 0-1 1, 1-5 37, 5-6 1, 6-2 35, 2-3 1, 3-7 33, 7-4 3, 4-0 39.
        due.is("to and fro", x.least(), 150000);
        due.round("to and fro", x, 0, 1, 5, 6, 2, 3, 7, 4);
    }

    @Says(promise = 18, value = "The least length of a ROUND that KEEPS TWINS and is another one than THE TOLD ROUND, which stays")
    static void secondIsAnotherThanTheToldOne(Due due) {
        Desk x = Towns.litSquare(due);
        int[][] same = {{0, 1, 2, 3}, {1, 2, 3, 0}, {3, 2, 1, 0}, {2, 1, 0, 3}, {3, 0, 1, 2}, {1, 0, 3, 2}, {0, 3, 2, 1}};
        for (int[] told : same) {
            Towns.tell(x, told);
            due.is("the same round from " + told[0], x.second(), 18);
            due.round("it stays as it stands", x, told);
        }
        Towns.tell(x, 0, 1, 3, 2);
        due.is("another is told", x.second(), 14);
        Desk y = twinSquare(due);
        Towns.tell(y, 0, 1, 2, 3);
        due.is("what is told keeps no twins", y.second(), 18);
    }

    @Says(promise = 18, value = "is another one than THE TOLD ROUND")
    static void secondForgetsWhatWasToldAhead(Due due) {
        Desk x = Towns.square(due);
        for (int i = 0; i < 4; i++) x.lamp(i == 0 ? 9 : i - 1, i == 0 ? 3 : 0, 0);
        x.lamp(3, 0, 0);
        x.lane(9, 0, 1);
        Towns.tell(x, 1, 2, 3, 4, 0);
        x.dark(0, true);
        // Lamps 1 to 4 of the square; 0 stood behind them, and is out.
        Towns.tell(x, 1, 2, 3, 4);
        due.is("another than 1 2 3 4", x.second(), 18);
        Towns.tell(x, 4, 3, 1, 2);
        due.is("another than 1 2 4 3", x.second(), 14);
    }

    @Says(promise = 17, value = "The least length of a ROUND that KEEPS TWINS; that ROUND (the first such) becomes THE TOLD ROUND.")
    static void leastForgetsWhatWasAskedAhead(Due due) {
        Desk x = Towns.litSquare(due);
        due.is("least", x.least(), 14);
        due.is("second", x.second(), 18);
        due.is("least again, though second() shunned it", x.least(), 14);
        due.is("with, as well", x.with(0, 1, true), 14);
        due.is("not side by side", x.with(0, 1, false), 20);
        due.is("least, though with() forbade it", x.least(), 14);
        due.is("side by side", x.with(0, 2, true), 18);
        due.is("least, though with() bade another", x.least(), 14);
        due.is("second again", x.second(), 18);
        Desk y = Towns.star(due, 12);
        for (int i = 0; i < 12; i++) y.lamp(i, i < 11 ? 3 : 0, 0);
        for (int i = 0; i < 7; i++) y.dark(i, true);
        due.is("of the last", y.with(11, 7, true), 10);
        due.is("not of the last", y.with(11, 10, false), 10);
        due.is("least", y.least(), 10);
        due.round("the first of all", y, 7, 8, 9, 10, 11);
        due.is("of the last two", y.with(10, 11, true), 10);
        due.is("neither of the first", y.with(7, 11, false), 10);
    }

    @Says(promise = 18, value = "STATE: THE TOLD ROUND isn't all LAMPS that aren't OUT, or these are fewer than three; LARGE; NEVER.")
    static void secondRefused(Due due) {
        Desk x = Towns.litSquare(due);
        due.is("nothing is told", x.second(), LampRound.STATE);
        Towns.tell(x, 0, 1, 2);
        due.is("one is wanting", x.second(), LampRound.STATE);
        x.put(3);
        due.is("all are told", x.second(), 18);
        due.is("two lamps", pair(due).second(), LampRound.STATE);
        due.is("no lamps", due.desk().second(), LampRound.STATE);
        Desk three = Towns.litStar(due, 3);
        Towns.tell(three, 2, 1, 0);
        due.is("of three there is one round", three.second(), LampRound.NEVER);
        Desk nine = Towns.litStar(due, 9);
        Towns.tell(nine, 0, 1, 2, 3, 4, 5, 6, 7);
        due.is("STATE ahead of LARGE", nine.second(), LampRound.STATE);
        nine.put(8);
        due.is("LARGE", nine.second(), LampRound.LARGE);
        nine.open(0, false);
        Towns.tell(nine, 0, 1, 2, 3, 4, 5, 6, 7, 8);
        due.is("LARGE ahead of NEVER", nine.second(), LampRound.LARGE);
    }

    @Says(promise = 19, value = "NUMBER: one is no LAMP or OUT, or they are the same")
    static void withOfLampsThatMayNotBe(Due due) {
        Desk x = Towns.star(due, 5);
        for (int i = 0; i < 5; i++) x.lamp(i, i == 4 ? 3 : 0, 0);
        x.dark(4, true);
        for (int none : new int[] {-1, 5, 11, 12, 32, MIN, MAX}) {
            for (int on = 0; on < 2; on++) {
                due.is("a " + none, x.with(none, 0, on == 1), LampRound.NUMBER);
                due.is("b " + none, x.with(0, none, on == 1), LampRound.NUMBER);
            }
        }
        due.is("a is out", x.with(4, 0, true), LampRound.NUMBER);
        due.is("b is out", x.with(0, 4, false), LampRound.NUMBER);
        for (int l = 0; l < 5; l++) due.is("the same " + l, x.with(l, l, true), LampRound.NUMBER);
        due.is("the first and the last", x.with(0, 3, true), 8);
        due.is("the last and the first, not", x.with(3, 0, false), 8);
    }

    @Says(promise = 19, value = {"The least length of a ROUND that KEEPS TWINS and in which a and b are neighbours (on), or are not.", "LARGE; NEVER."})
    static void withLargeAndNever(Due due) {
        Desk x = Towns.star(due, 9);
        for (int i = 0; i < 9; i++) x.lamp(i, i == 8 ? 3 : 0, 0);
        due.is("nine", x.with(0, 1, true), LampRound.LARGE);
        due.is("NUMBER ahead of LARGE: none", x.with(0, 9, true), LampRound.NUMBER);
        due.is("NUMBER ahead of LARGE: the same", x.with(1, 1, true), LampRound.NUMBER);
        x.dark(8, true);
        due.is("eight", x.with(0, 1, true), 16);
        due.is("NUMBER of one that is out", x.with(0, 8, true), LampRound.NUMBER);
        Desk y = twinSquare(due);
        Towns.tell(y, 3);
        due.is("twins that are not to be neighbours", y.with(3, 1, false), LampRound.NEVER);
        due.is("twins that are", y.with(3, 1, true), 18);
        due.round("the told round stays", y, 3);
        Desk three = Towns.litStar(due, 3);
        due.is("of three, not neighbours", three.with(0, 2, false), LampRound.NEVER);
        due.is("of three, neighbours", three.with(0, 2, true), 6);
        Desk z = Towns.star(due, 5);
        z.lamp(0, 0, 0);
        z.lamp(1, 1, 0);
        z.lamp(2, 1, 0);
        z.lamp(3, 0, 0);
        z.lamp(4, 0, 0);
        due.is("a third neighbour", z.with(0, 3, true), LampRound.NEVER);
        due.is("two neighbours of the twins that close a ring too soon", z.with(1, 2, true), LampRound.NEVER);
    }

    // ---- put, clear, at

    @Says(promise = 20, value = "A LAMP comes to the end of THE TOLD ROUND: how many it has.")
    static void putUntilAllAreTold(Due due) {
        Desk x = due.desk();
        Towns.light(x, 12);
        for (int i = 0; i < 12; i++) due.is("how many", x.put(11 - i), i + 1);
        due.round("all twelve", x, 11, 10, 9, 8, 7, 6, 5, 4, 3, 2, 1, 0);
        for (int i = 0; i < 12; i++) due.is("none may come more", x.put(i), LampRound.STATE);
        due.is("still twelve", x.many(4), 12);
    }

    @Says(promise = 20, value = "NUMBER: there is no such LAMP; STATE: it is OUT, or in it already.")
    static void putRefused(Due due) {
        Desk x = due.desk();
        due.is("none at all", x.put(0), LampRound.NUMBER);
        Towns.light(x, 2);
        x.lamp(5, 3, 0);
        for (int none : new int[] {-1, 3, 11, 12, MIN, MAX}) due.is("lamp " + none, x.put(none), LampRound.NUMBER);
        x.dark(2, true);
        due.is("out", x.put(2), LampRound.STATE);
        due.is("the first", x.put(0), 1);
        due.is("in it already", x.put(0), LampRound.STATE);
        due.is("the last", x.put(1), 2);
        due.is("in it already, not the last", x.put(0), LampRound.STATE);
        due.round("refused ones don't come", x, 0, 1);
    }

    @Says(promise = 21, value = "THE TOLD ROUND is nothing: how many LAMPS it had.")
    static void clearOfNothingAndOfAll(Due due) {
        Desk x = due.desk();
        due.is("nothing", x.clear(), 0);
        Towns.light(x, 12);
        for (int i = 0; i < 12; i++) x.put(i);
        due.is("twelve", x.clear(), 12);
        due.round("nothing", x);
        due.is("again", x.clear(), 0);
        due.is("a lamp may come again", x.put(0), 1);
        due.is("one", x.clear(), 1);
    }

    @Says(promise = 22, value = "LAMP i of THE TOLD ROUND, as it stands; -1 if there is none such")
    static void atOfNone(Due due) {
        Desk x = due.desk();
        for (int i : new int[] {0, -1, 1, MIN, MAX}) due.is("nothing, i " + i, x.at(i), -1);
        Towns.light(x, 12);
        Towns.tell(x, 3, 1);
        for (int i : new int[] {-1, 2, 11, 12, MIN, MAX}) due.is("two, i " + i, x.at(i), -1);
        due.is("the first", x.at(0), 3);
        due.is("the last", x.at(1), 1);
        for (int i = 0; i < 12; i++) x.put(i);
        due.is("the twelfth", x.at(11), 11);
        due.is("behind it", x.at(12), -1);
    }

    // ---- length, keeps, turn, better

    @Says(promise = 23, value = "STATE: it isn't all LAMPS that aren't OUT, or these are fewer than three; APART: some neighbours have no WAY.")
    static void lengthRefused(Due due) {
        Desk x = Towns.litSquare(due);
        x.lamp(20, 3, 0);
        due.is("nothing", x.length(), LampRound.STATE);
        Towns.tell(x, 0, 1, 2, 3);
        due.is("the one apart is wanting: STATE", x.length(), LampRound.STATE);
        x.put(4);
        due.is("all, one is apart", x.length(), LampRound.APART);
        Towns.tell(x, 4, 0, 1, 2);
        due.is("STATE ahead of APART", x.length(), LampRound.STATE);
        x.put(3);
        due.is("apart at the first place", x.length(), LampRound.APART);
        x.dark(4, true);
        Towns.tell(x, 0, 1, 2, 3);
        due.is("all that aren't out", x.length(), 14);
        due.is("two", pair(due).length(), LampRound.STATE);
        due.is("none", due.desk().length(), LampRound.STATE);
        Desk three = Towns.litStar(due, 3);
        Towns.tell(three, 2, 0, 1);
        due.is("three", three.length(), 6);
    }

    @Says(promise = 23, value = "The length of THE TOLD ROUND.")
    static void theLongestLength(Due due) {
        Desk x = due.desk();
        for (int i = 0; i < 39; i++) x.lane(i, i + 1, 1000);
        for (int i = 0; i < 6; i++) x.lamp(i, 0, 0);
        for (int i = 34; i < 40; i++) x.lamp(i, 0, 0);
        Towns.tell(x, 0, 6, 1, 7, 2, 8, 3, 9, 4, 10, 5, 11);
        // Six ways of 34, five of 33, and 39 home.
        due.is("to and fro eleven times", x.length(), 408000);
    }

    @Says(promise = 24, value = "STATE: it isn't all LAMPS that aren't OUT, or these are fewer than three.")
    static void keepsRefused(Due due) {
        Desk x = twinSquare(due);
        due.is("nothing", x.keeps(), LampRound.STATE);
        Towns.tell(x, 0, 1, 3);
        due.is("one is wanting", x.keeps(), LampRound.STATE);
        x.put(2);
        due.is("all", x.keeps(), 1);
        due.is("two", pair(due).keeps(), LampRound.STATE);
        due.is("none", due.desk().keeps(), LampRound.STATE);
    }

    @Says(promise = 24, value = "Whether THE TOLD ROUND KEEPS TWINS: 1, 0.")
    static void keepsNeedsNoWays(Due due) {
        Desk x = due.desk();
        Towns.light(x, 3);
        x.lamp(3, 1, 0);
        Towns.tell(x, 0, 1, 3, 2);
        due.is("twins that aren't neighbours, all apart", x.keeps(), 0);
        Towns.tell(x, 0, 1, 2, 3);
        due.is("twins at both ends, all apart", x.keeps(), 1);
        Desk three = due.desk();
        Towns.light(three, 2);
        three.lamp(2, 1, 0);
        Towns.tell(three, 0, 1, 2);
        due.is("of three all are neighbours", three.keeps(), 1);
    }

    @Says(promise = 25, value = "THE TOLD ROUND is TURNED at i, j: 1. STATE as by length(); NUMBER: i or j is none that may be.")
    static void turnRefused(Due due) {
        Desk x = Towns.litStar(due, 4);
        due.is("nothing", x.turn(0, 1), LampRound.STATE);
        due.is("STATE ahead of NUMBER", x.turn(-1, 99), LampRound.STATE);
        Towns.tell(x, 0, 1, 2);
        due.is("one is wanting", x.turn(0, 2), LampRound.STATE);
        x.put(3);
        int[][] wrong = {{-1, 2}, {MIN, 2}, {0, 4}, {0, MAX}, {1, 1}, {0, 0}, {3, 3}, {2, 1}, {3, 4}, {4, 5}, {3, 0}, {MAX, MIN}, {MIN, MAX}, {MAX, MAX}, {-2, -1}, {0, -1}, {0, MIN}};
        for (int[] w : wrong) due.is("turn " + w[0] + ", " + w[1], x.turn(w[0], w[1]), LampRound.NUMBER);
        due.round("refused ones change nothing", x, 0, 1, 2, 3);
        due.is("0, 1", x.turn(0, 1), 1);
        due.is("2, 3", x.turn(2, 3), 1);
        due.round("one lamp alone", x, 0, 1, 2, 3);
        due.is("0, 3", x.turn(0, 3), 1);
        due.round("0, 3", x, 0, 3, 2, 1);
        due.is("two", pair(due).turn(0, 1), LampRound.STATE);
    }

    @Says(promise = 25, value = "STATE as by length()")
    static void turnNeedsNoWays(Due due) {
        Desk x = due.desk();
        Towns.light(x, 3);
        Towns.tell(x, 0, 1, 2);
        due.is("its length is APART", x.length(), LampRound.APART);
        due.is("turned", x.turn(0, 2), 1);
        due.round("turned", x, 0, 2, 1);
    }

    @Says(promise = 26, value = "STATE, APART as by length().")
    static void betterRefused(Due due) {
        Desk x = Towns.litSquare(due);
        x.lamp(20, 3, 0);
        due.is("nothing", x.better(), LampRound.STATE);
        Towns.tell(x, 0, 2, 1, 3);
        due.is("one is wanting", x.better(), LampRound.STATE);
        x.put(4);
        due.is("one is apart", x.better(), LampRound.APART);
        due.round("it stays", x, 0, 2, 1, 3, 4);
        Towns.tell(x, 4, 0);
        due.is("STATE ahead of APART", x.better(), LampRound.STATE);
        x.dark(4, true);
        Towns.tell(x, 0, 2, 1, 3);
        due.is("without it", x.better(), 1);
        due.is("two", pair(due).better(), LampRound.STATE);
        Desk three = Towns.litStar(due, 3);
        Towns.tell(three, 2, 0, 1);
        due.is("of three none is shorter", three.better(), 0);
        due.round("as it stood", three, 2, 0, 1);
    }

    @Says(promise = 26, value = "As long as some i, j TURN THE TOLD ROUND so that it is SHORTER")
    static void aTurnThatLeavesTheLengthIsNotDone(Due due) {
        Desk x = line(due, 4);
        Towns.light(x, 4);
        // 0 1 3 2 has 6 as 0 1 2 3 has; no round is shorter.
        Towns.tell(x, 0, 1, 3, 2);
        due.is("length", x.length(), 6);
        due.is("none is shorter", x.better(), 0);
        due.round("as it stood", x, 0, 1, 3, 2);
    }

    @Says(promise = 0, value = "It is SHORTER BY d if the told row's length (as a ROUND) falls by d.")
    static void aTurnThatIsShorterByOneIsDone(Due due) {
        Desk x = due.desk();
        x.lane(0, 1, 500);
        x.lane(1, 2, 500);
        x.lane(2, 3, 500);
        x.lane(3, 0, 500);
        x.lane(0, 2, 501);
        x.lane(1, 3, 500);
        Towns.light(x, 4);
        // 0 2 1 3 and 0 1 3 2 have 2001, 0 1 2 3 has 2000: places 1, 2 are the first that fall by 1.
        Towns.tell(x, 0, 2, 1, 3);
        due.is("length", x.length(), 2001);
        due.is("one turn", x.better(), 1);
        due.is("length", x.length(), 2000);
        due.round("one turn", x, 0, 1, 2, 3);
    }

    @Says(promise = 26, value = "and KEEPS TWINS or did not ahead of it")
    static void aTurnKeepsWhatWasKeptAheadOfIt(Due due) {
        Desk x = line(due, 5);
        Towns.light(x, 4);
        x.lamp(4, 1, 2);
        Towns.tell(x, 0, 2, 3, 1, 4);
        due.is("ahead of the first it keeps none", x.keeps(), 0);
        // 0, 3 makes it 0 1 3 2 4, which keeps them: so 1, 3 (0 1 2 3 4) may not follow, 2, 4 may.
        due.is("two turns", x.better(), 2);
        due.round("two turns", x, 0, 1, 3, 4, 2);
        due.is("length", x.length(), 8);
        Desk y = line(due, 5);
        Towns.light(y, 5);
        Towns.tell(y, 0, 2, 3, 1, 4);
        due.is("without twins", y.better(), 2);
        due.round("without twins", y, 0, 1, 2, 3, 4);
    }

    @Says(promise = 26, value = "the first such, by i, then by j, is done")
    static void theFirstTurnByIThenByJ(Due due) {
        Desk x = line(due, 6);
        Towns.light(x, 6);
        Towns.tell(x, 0, 3, 1, 4, 2, 5);
        // 0, 2: 0 1 3 4 2 5 (14); 1, 4: 0 1 2 4 3 5 (12); 2, 4: 0 1 2 3 4 5 (10).
        due.is("three", x.better(), 3);
        due.round("three", x, 0, 1, 2, 3, 4, 5);
        due.is("no more", x.better(), 0);
    }

    private static Desk twelve(Due due, int[] lengths) {
        Desk x = due.desk();
        int k = 0;
        for (int a = 0; a < 12; a++) {
            for (int b = a + 1; b < 12; b++) {
                x.lane(a, b, lengths[k]);
                k++;
            }
        }
        Towns.light(x, 12);
        Towns.tell(x, 0, 1, 2, 3, 4, 5, 6, 7, 8, 9, 10, 11);
        return x;
    }

    @Says(promise = 26, value = "is done, 100 times at most: how many were done")
    static void aHundredTurnsAtMost(Due due) {
        int[][] towns = {TURNS_99, TURNS_100, TURNS_101, TURNS_110};
        int[] first = {99, 100, 100, 100};
        int[] then = {0, 0, 1, 10};
        for (int t = 0; t < towns.length; t++) {
            Desk x = twelve(due, towns[t]);
            due.is("town " + t, x.better(), first[t]);
            due.is("town " + t + ", what is left", x.better(), then[t]);
            due.is("town " + t + ", nothing is left", x.better(), 0);
        }
    }
}
