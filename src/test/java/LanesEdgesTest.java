import java.io.IOException;

/** The edges of Terms 1 and of promises 1 to 11, a test for each sentence. */
public final class LanesEdgesTest {
    private static final int MIN = Integer.MIN_VALUE;
    private static final int MAX = Integer.MAX_VALUE;
    private static final long NONE = Long.MAX_VALUE;

    public static void main(String[] args) throws IOException, IllegalAccessException {
        Sentences.hold(LanesEdgesTest.class);
    }

    /** A row of lanes 0-1, 1-2, .. with lengths 10, 11, .. */
    private static Desk lanes(Due due, int n) {
        Desk x = due.desk();
        for (int i = 0; i < n; i++) x.lane(i % 39, i % 39 + 1, 10 + i);
        return x;
    }

    /** ROW r of ints, these. */
    private static void ints(Desk x, int r, int... cells) {
        x.row(r, 1, cells.length);
        for (int i = 0; i < cells.length; i++) x.cell(r, i, cells[i]);
    }

    private static void lengths(Due due, String what, Desk x, int... want) {
        for (int i = 0; i < want.length; i++) due.is(what + ", lane " + i, x.about(i, 2), want[i]);
    }

    private static void opens(Due due, String what, Desk x, int... want) {
        for (int i = 0; i < want.length; i++) due.is(what + ", lane " + i + " open", x.about(i, 3), want[i]);
    }

    // ---- the object

    @Says(promise = 0, value = "An object is used for at most 512 calls after it has been made")
    static void theLastOf512CallsIsAnswered(Due due) {
        Desk x = due.desk();
        for (int i = 0; i < 100; i++) x.lane(i % 39, 39, 1 + i);
        while (x.left() > 2) x.open(x.left() % 100, x.left() % 3 == 0);
        x.open(5, true);
        due.is("call 512", x.way(39, 5), 6);
        due.is("none is left", x.left(), 0);
    }

    @Says(promise = 1, value = "No LANES")
    static void aNewObjectHasNoLanes(Due due) {
        Desk x = due.desk();
        due.is("many", x.many(0), 0);
        due.is("about", x.about(0, 0), LampRound.NUMBER);
        due.is("open", x.open(0, true), LampRound.NUMBER);
        due.is("way", x.way(0, 39), LampRound.APART);
    }

    @Says(promise = 1, value = "no LAMPS")
    static void aNewObjectHasNoLamps(Due due) {
        Desk x = due.desk();
        due.is("many", x.many(1), 0);
        due.is("many not out", x.many(2), 0);
        due.is("worth", x.many(5), 0);
        due.is("of", x.of(0, 0), MIN);
        due.is("twin", x.twin(0), -2);
        due.is("put", x.put(0), LampRound.NUMBER);
        due.is("least", x.least(), LampRound.NEVER);
    }

    @Says(promise = 1, value = "ROWS are MISSING")
    static void aNewObjectsRowsAreMissing(Due due) {
        Desk x = due.desk();
        for (int r = 0; r <= 3; r++) {
            due.is("told " + r, x.told(r, 0), NONE);
            due.is("cell " + r, x.cell(r, 0, 1), LampRound.MISSING);
            due.is("lay " + r, x.lay(r, 0, 0, 0), LampRound.MISSING);
            due.is("lose " + r, x.lose(r), LampRound.MISSING);
        }
    }

    @Says(promise = 1, value = "the TOLD ROUND and the told PROOF are nothing")
    static void aNewObjectTellsNothing(Due due) {
        Desk x = due.desk();
        due.is("round", x.many(4), 0);
        due.is("at", x.at(0), -1);
        due.is("clear", x.clear(), 0);
        due.is("proof", x.many(3), 0);
        due.is("shown", x.shown(0, 0), MIN);
        due.is("cut", x.cut(0), 0);
        due.is("cut 1", x.cut(1), LampRound.NUMBER);
    }

    @Says(promise = 1, value = "`LampRound()`")
    static void twoObjectsShareNothing(Due due) {
        Desk x = due.desk();
        Desk y = due.desk();
        x.lane(0, 1, 5);
        x.lamp(0, 0, 0);
        x.put(0);
        x.line(2, 0, 0);
        x.row(0, 1, 3);
        for (int what = 0; what <= 5; what++) due.is("the other's many " + what, y.many(what), 0);
        due.is("the other's row", y.told(0, 0), NONE);
        due.is("the other's way", y.way(0, 1), LampRound.APART);
    }

    // ---- lane

    @Says(promise = 0, value = "CROSSINGS are 0 to 39")
    static void theFirstAndTheLastCrossing(Due due) {
        Desk x = due.desk();
        due.is("lane", x.lane(0, 39, 7), 0);
        due.is("way", x.way(0, 39), 7);
        due.is("way back", x.way(39, 0), 7);
        due.is("walk", x.walk(0, 39, 1), 39);
        due.is("lamp at 0", x.lamp(0, 0, 0), 0);
        due.is("lamp at 39", x.lamp(39, 0, 0), 1);
    }

    @Says(promise = 0, value = "LANES 0 to 99, as they come")
    static void lanesAreNumberedAsTheyCome(Due due) {
        Desk x = due.desk();
        for (int i = 0; i < 100; i++) due.is("lane", x.lane(0, 1 + i % 39, 1 + i), i);
        due.is("the last one's end", x.about(99, 1), 1 + 99 % 39);
        due.is("the last one's length", x.about(99, 2), 100);
        due.is("the first one's length", x.about(0, 2), 1);
    }

    @Says(promise = 0, value = "a LANE joins two unlike CROSSINGS, has a LENGTH (1 to 1000)")
    static void severalLanesMayJoinTheSameTwo(Due due) {
        Desk x = due.desk();
        due.is("first", x.lane(3, 4, 9), 0);
        due.is("as it was", x.lane(3, 4, 9), 1);
        due.is("the other way about", x.lane(4, 3, 8), 2);
        due.is("the way", x.way(3, 4), 8);
    }

    @Says(promise = 0, value = "and is OPEN or SHUT.")
    static void aLaneIsOpenOrShut(Due due) {
        Desk x = lanes(due, 3);
        x.open(1, false);
        for (int lane = 0; lane < 3; lane++) due.is("one is shut, lane " + lane, x.about(lane, 3), lane == 1 ? 0 : 1);
        for (int what = 0; what < 3; what++) {
            int was = x.about(1, what);
            x.open(1, true);
            due.is("the rest stays, what " + what, x.about(1, what), was);
            x.open(1, false);
        }
        x.open(1, true);
        for (int lane = 0; lane < 3; lane++) due.is("all are open, lane " + lane, x.about(lane, 3), 1);
    }

    @Says(promise = 2, value = "A LANE comes, OPEN: its number.")
    static void aLaneComesOpen(Due due) {
        Desk x = lanes(due, 1);
        due.is("number", x.lane(5, 2, 3), 1);
        due.is("open", x.about(1, 3), 1);
        due.is("its first crossing", x.about(1, 0), 5);
        due.is("its other crossing", x.about(1, 1), 2);
        x.open(1, false);
        due.is("the next one is open too", x.lane(5, 2, 3), 2);
        due.is("the next one is open too", x.about(2, 3), 1);
    }

    @Says(promise = 2, value = "NUMBER: a or b is no CROSSING")
    static void laneOfNoCrossing(Due due) {
        for (int none : new int[] {-1, 40, MIN, MAX, 1 << 16, -40}) {
            Desk x = due.desk();
            due.is("a " + none, x.lane(none, 1, 5), LampRound.NUMBER);
            due.is("b " + none, x.lane(1, none, 5), LampRound.NUMBER);
            due.is("both " + none, x.lane(none, none, 5), LampRound.NUMBER);
            due.is("none came", x.many(0), 0);
        }
        Desk x = due.desk();
        due.is("a 0", x.lane(0, 1, 5), 0);
        due.is("a 39", x.lane(39, 1, 5), 1);
        due.is("b 0", x.lane(1, 0, 5), 2);
        due.is("b 39", x.lane(1, 39, 5), 3);
    }

    @Says(promise = 2, value = "they are the same")
    static void laneFromACrossingToItself(Due due) {
        Desk x = due.desk();
        for (int a : new int[] {0, 1, 38, 39}) due.is("from " + a, x.lane(a, a, 5), LampRound.NUMBER);
        due.is("none came", x.many(0), 0);
        due.is("to the next", x.lane(38, 39, 5), 0);
    }

    @Says(promise = 2, value = "length isn't 1 to 1000")
    static void laneOfALengthThatMayNotBe(Due due) {
        Desk x = due.desk();
        for (int length : new int[] {0, -1, MIN, 1001, MAX}) due.is("length " + length, x.lane(0, 1, length), LampRound.NUMBER);
        due.is("none came", x.many(0), 0);
        due.is("1", x.lane(0, 1, 1), 0);
        due.is("1000", x.lane(1, 2, 1000), 1);
        due.is("1", x.about(0, 2), 1);
        due.is("1000", x.about(1, 2), 1000);
    }

    @Says(promise = 2, value = "FULL")
    static void aHundredLanesAreFull(Due due) {
        Desk x = lanes(due, 99);
        due.is("the hundredth", x.lane(0, 39, 5), 99);
        due.is("one more", x.lane(0, 38, 5), LampRound.FULL);
        due.is("still a hundred", x.many(0), 100);
        due.is("none such", x.about(100, 0), LampRound.NUMBER);
        x.open(0, false);
        due.is("a shut one counts", x.lane(0, 38, 5), LampRound.FULL);
        due.is("NUMBER ahead of FULL: a", x.lane(-1, 38, 5), LampRound.NUMBER);
        due.is("NUMBER ahead of FULL: b", x.lane(0, 40, 5), LampRound.NUMBER);
        due.is("NUMBER ahead of FULL: the same", x.lane(7, 7, 5), LampRound.NUMBER);
        due.is("NUMBER ahead of FULL: length", x.lane(0, 1, 1001), LampRound.NUMBER);
    }

    // ---- open, about

    @Says(promise = 3, value = "A LANE is OPEN, or SHUT: 1 if that changes something, else 0.")
    static void openTellsWhetherItChanges(Due due) {
        Desk x = lanes(due, 2);
        due.is("open already", x.open(1, true), 0);
        due.is("shut", x.open(1, false), 1);
        due.is("shut already", x.open(1, false), 0);
        due.is("the other stays", x.about(0, 3), 1);
        due.is("open again", x.open(1, true), 1);
        due.is("open", x.about(1, 3), 1);
        due.is("its length stays", x.about(1, 2), 11);
    }

    @Says(promise = 3, value = "NUMBER: there is none such.")
    static void openOfNoLane(Due due) {
        Desk empty = due.desk();
        due.is("none at all", empty.open(0, false), LampRound.NUMBER);
        Desk x = lanes(due, 3);
        for (int none : new int[] {-1, 3, 99, 100, MIN, MAX}) {
            due.is("shut " + none, x.open(none, false), LampRound.NUMBER);
            due.is("open " + none, x.open(none, true), LampRound.NUMBER);
        }
        due.is("the first", x.open(0, false), 1);
        due.is("the last", x.open(2, false), 1);
        Desk y = lanes(due, 100);
        due.is("the last of a hundred", y.open(99, false), 1);
        due.is("behind it", y.open(100, false), LampRound.NUMBER);
    }

    @Says(promise = 4, value = "Of a LANE: what = 0, 1 its CROSSINGS, 2 its LENGTH, 3 1 if it is OPEN, else 0.")
    static void aboutEachWhat(Due due) {
        Desk x = due.desk();
        x.lane(39, 0, 1000);
        x.lane(0, 39, 1);
        x.open(1, false);
        int[][] want = {{39, 0, 1000, 1}, {0, 39, 1, 0}};
        for (int l = 0; l < 2; l++) for (int w = 0; w < 4; w++) due.is("lane " + l + " what " + w, x.about(l, w), want[l][w]);
    }

    @Says(promise = 4, value = "NUMBER: there is none such, another what.")
    static void aboutNoLaneOrAnotherWhat(Due due) {
        Desk x = lanes(due, 2);
        for (int none : new int[] {-1, 2, 100, MIN, MAX}) due.is("lane " + none, x.about(none, 2), LampRound.NUMBER);
        for (int none : new int[] {-1, 4, MIN, MAX}) due.is("what " + none, x.about(1, none), LampRound.NUMBER);
        due.is("neither", x.about(2, 4), LampRound.NUMBER);
        due.is("the last one's last what", x.about(1, 3), 1);
    }

    // ---- rows

    @Says(promise = 0, value = "LENGTHS may come by ROWS, 0 to 3: rows of shorts (kind 0), ints (1) or longs (2), each there or MISSING.")
    static void eachRowIsThereOrMissing(Due due) {
        for (int there = 0; there < 16; there++) {
            Desk x = lanes(due, 1);
            for (int r = 0; r <= 3; r++) if ((there >> r & 1) == 1) x.row(r, 1, 1);
            for (int r = 0; r <= 3; r++) {
                boolean is = (there >> r & 1) == 1;
                due.is("row " + r + " of " + there, x.told(r, 0), is ? 1 : NONE);
                due.is("lay by row " + r + " of " + there, x.lay(r, 0, 1, 0), is ? 1 : LampRound.MISSING);
            }
        }
        Desk x = lanes(due, 1);
        for (int kind = 0; kind <= 2; kind++) {
            x.row(kind, kind, 1);
            due.is("kind " + kind, x.lay(kind, 0, 1, 0), kind == 1 ? 1 : LampRound.KIND);
        }
    }

    @Says(promise = 5, value = "ROW r is there, of that kind, with n numbers, all 1: 1.")
    static void aRowMadeAnewIsAllOnes(Due due) {
        Desk x = due.desk();
        for (int kind = 0; kind <= 2; kind++) {
            due.is("made", x.row(1, kind, 4), 1);
            for (int i = 0; i < 4; i++) due.is("kind " + kind + " number " + i, x.told(1, i), 1);
            for (int i = 0; i < 4; i++) x.cell(1, i, 70000 + i);
            due.is("of that kind", x.told(1, 3), kind == 0 ? 70003 - 65536 : 70003);
        }
        x.row(1, 2, 2);
        due.is("shorter", x.told(1, 2), NONE);
        x.row(1, 2, 4);
        due.is("longer again: what stood there is 1", x.told(1, 3), 1);
        x.cell(1, 0, 8);
        x.lose(1);
        x.row(1, 2, 4);
        due.is("behind lose()", x.told(1, 0), 1);
        due.is("the others are still missing", x.told(0, 0), NONE);
        due.is("the others are still missing", x.told(2, 0), NONE);
    }

    @Says(promise = 5, value = "NUMBER: r isn't 0 to 3, or kind not 0 to 2")
    static void rowOfANumberOrKindThatMayNotBe(Due due) {
        Desk x = due.desk();
        for (int r : new int[] {-1, 4, MIN, MAX}) due.is("r " + r, x.row(r, 1, 3), LampRound.NUMBER);
        for (int kind : new int[] {-1, 3, MIN, MAX}) due.is("kind " + kind, x.row(0, kind, 3), LampRound.NUMBER);
        due.is("still missing", x.lose(0), LampRound.MISSING);
        for (int r = 0; r <= 3; r++) due.is("r " + r, x.row(r, r % 3, 3), 1);
    }

    @Says(promise = 5, value = "SIZE: n is below 0")
    static void rowOfALengthBelowNought(Due due) {
        Desk x = due.desk();
        due.is("-1", x.row(0, 1, -1), LampRound.SIZE);
        due.is("the least", x.row(0, 1, MIN), LampRound.SIZE);
        due.is("still missing", x.lose(0), LampRound.MISSING);
        due.is("r ahead of SIZE", x.row(4, 1, -1), LampRound.NUMBER);
        due.is("r ahead of SIZE", x.row(-1, 1, MIN), LampRound.NUMBER);
        due.is("kind ahead of SIZE", x.row(0, 3, -1), LampRound.NUMBER);
        due.is("kind ahead of SIZE", x.row(0, -1, MIN), LampRound.NUMBER);
        due.is("0", x.row(0, 1, 0), 1);
    }

    @Says(promise = 5, value = "NUMBER: n is above 50")
    static void rowOfMoreThanFifty(Due due) {
        Desk x = due.desk();
        due.is("51", x.row(0, 1, 51), LampRound.NUMBER);
        due.is("the greatest", x.row(0, 1, MAX), LampRound.NUMBER);
        due.is("still missing", x.told(0, 0), NONE);
        for (int kind = 0; kind <= 2; kind++) {
            due.is("50", x.row(kind, kind, 50), 1);
            due.is("the last", x.told(kind, 49), 1);
            due.is("behind it", x.told(kind, 50), NONE);
            due.is("the last becomes", x.cell(kind, 49, -kind), 1);
            due.is("the last became", x.told(kind, 49), -kind);
            due.is("the first stays", x.told(kind, 0), 1);
        }
    }

    @Says(promise = 6, value = "Number i of a ROW becomes v (as a short")
    static void aCellAsAShortWrapsAround(Due due) {
        Desk x = due.desk();
        x.row(0, 0, 1);
        long[] v = {32767, 32768, 65535, 65536, 65537, -32768, -32769, -65536, 1L << 31, (1L << 32) + 7, Long.MAX_VALUE, Long.MIN_VALUE};
        long[] want = {32767, -32768, -1, 0, 1, -32768, 32767, 0, 0, 7, -1, 0};
        for (int k = 0; k < v.length; k++) {
            due.is("set " + v[k], x.cell(0, 0, v[k]), 1);
            due.is("as a short " + v[k], x.told(0, 0), want[k]);
        }
    }

    @Says(promise = 6, value = "an int, a long, as the language casts it): 1.")
    static void aCellAsAnIntWrapsAround(Due due) {
        Desk x = due.desk();
        x.row(0, 1, 1);
        long[] v = {MAX, 1L << 31, (1L << 32) - 1, 1L << 32, (1L << 32) + 1, MIN, MIN - 1L, -(1L << 32), 65536, Long.MAX_VALUE, Long.MIN_VALUE};
        long[] want = {MAX, MIN, -1, 0, 1, MIN, MAX, 0, 65536, -1, 0};
        for (int k = 0; k < v.length; k++) {
            due.is("set " + v[k], x.cell(0, 0, v[k]), 1);
            due.is("as an int " + v[k], x.told(0, 0), want[k]);
        }
    }

    @Says(promise = 6, value = "a long, as the language casts it)")
    static void aCellAsALongIsWhole(Due due) {
        Desk x = due.desk();
        x.row(0, 2, 1);
        for (long v : new long[] {Long.MAX_VALUE, Long.MIN_VALUE, 1L << 32, 1L << 31, 65536, 0, -1}) {
            due.is("set " + v, x.cell(0, 0, v), 1);
            due.is("as a long " + v, x.told(0, 0), v);
        }
    }

    @Says(promise = 6, value = "NUMBER: r isn't 0 to 3; MISSING; NUMBER: it has no number i.")
    static void cellThatIsNotThere(Due due) {
        Desk x = due.desk();
        for (int r : new int[] {-1, 4, MIN, MAX}) due.is("r " + r, x.cell(r, 0, 5), LampRound.NUMBER);
        due.is("MISSING", x.cell(3, 0, 5), LampRound.MISSING);
        due.is("MISSING ahead of i below", x.cell(3, -1, 5), LampRound.MISSING);
        due.is("MISSING ahead of i above", x.cell(3, MAX, 5), LampRound.MISSING);
        x.row(3, 2, 2);
        for (int i : new int[] {-1, 2, 49, 50, MIN, MAX}) due.is("i " + i, x.cell(3, i, 5), LampRound.NUMBER);
        due.is("the first stays", x.told(3, 0), 1);
        due.is("the last stays", x.told(3, 1), 1);
        due.is("the last may be", x.cell(3, 1, 5), 1);
        due.is("the first may be", x.cell(3, 0, 6), 1);
        x.row(0, 1, 0);
        due.is("a row of none has no number 0", x.cell(0, 0, 5), LampRound.NUMBER);
        x.lose(3);
        due.is("MISSING again", x.cell(3, 0, 5), LampRound.MISSING);
    }

    @Says(promise = 7, value = "Number i of a ROW; NONE, 2^63 - 1, if r isn't 0 to 3, it is MISSING, or has none such.")
    static void toldOfNone(Due due) {
        Desk x = due.desk();
        for (int r : new int[] {-1, 4, MIN, MAX}) due.is("r " + r, x.told(r, 0), NONE);
        due.is("missing", x.told(0, 0), NONE);
        x.row(0, 0, 3);
        for (int i : new int[] {-1, 3, 50, MIN, MAX}) due.is("i " + i, x.told(0, i), NONE);
        due.is("the first", x.told(0, 0), 1);
        due.is("the last", x.told(0, 2), 1);
        x.row(0, 0, 0);
        due.is("a row of none", x.told(0, 0), NONE);
        x.row(1, 2, 1);
        x.cell(1, 0, Long.MAX_VALUE);
        due.is("a number as great as NONE", x.told(1, 0), NONE);
    }

    @Says(promise = 8, value = "NUMBER: r isn't 0 to 3; MISSING: it is.")
    static void loseWhatIsNotThere(Due due) {
        Desk x = due.desk();
        for (int r : new int[] {-1, 4, MIN, MAX}) due.is("r " + r, x.lose(r), LampRound.NUMBER);
        for (int r = 0; r <= 3; r++) {
            due.is("missing at first " + r, x.lose(r), LampRound.MISSING);
            x.row(r, 1, r == 1 ? 0 : 50);
        }
        for (int r = 0; r <= 3; r++) {
            due.is("lost " + r, x.lose(r), 1);
            due.is("missing now " + r, x.lose(r), LampRound.MISSING);
            if (r < 3) due.is("the next stays", x.lay(r + 1, 0, 0, 0), 1);
        }
    }

    @Says(promise = 8, value = "ROW r is MISSING from now on: 1.")
    static void whatIsLostIsMissingEverywhere(Due due) {
        Desk x = lanes(due, 1);
        x.row(2, 1, 3);
        x.row(3, 1, 3);
        x.lose(2);
        due.is("told", x.told(2, 0), NONE);
        due.is("cell", x.cell(2, 0, 1), LampRound.MISSING);
        due.is("lay", x.lay(2, 0, 1, 0), LampRound.MISSING);
        due.is("the other one is there", x.lay(3, 0, 1, 0), 1);
        x.row(2, 0, 1);
        due.is("there again", x.told(2, 0), 1);
    }

    // ---- lay

    @Says(promise = 9, value = "Numbers from .. from + n - 1 of a ROW of ints come to LANES lane .. lane + n - 1 as their LENGTHS")
    static void layReachesJustItsLanes(Due due) {
        Desk x = lanes(due, 5);
        ints(x, 3, 100, 200, 300, 400);
        due.is("laid", x.lay(3, 1, 2, 2), 1);
        lengths(due, "from 1, two, to lane 2", x, 10, 11, 200, 300, 14);
        due.is("the last number to the last lane", x.lay(3, 3, 1, 4), 1);
        lengths(due, "the last to the last", x, 10, 11, 200, 300, 400);
        due.is("the first number to the first lane", x.lay(3, 0, 1, 0), 1);
        lengths(due, "the first to the first", x, 100, 11, 200, 300, 400);
        due.is("all numbers", x.lay(3, 0, 4, 1), 1);
        lengths(due, "all numbers", x, 100, 100, 200, 300, 400);
        opens(due, "all are open", x, 1, 1, 1, 1, 1);
    }

    @Says(promise = 9, value = "one that isn't 1 to 1000 leaves its LANE's LENGTH and makes it SHUT: 1.")
    static void layOfALengthThatMayNotBe(Due due) {
        int[] cells = {0, 1, 1000, 1001, -1, MIN, MAX, 65537};
        Desk x = lanes(due, cells.length);
        ints(x, 0, cells);
        due.is("laid", x.lay(0, 0, cells.length, 0), 1);
        lengths(due, "lengths", x, 10, 1, 1000, 13, 14, 15, 16, 17);
        opens(due, "shut", x, 0, 1, 1, 0, 0, 0, 0, 0);
        due.is("a shut lane is no way", x.way(0, 1), LampRound.APART);
        due.is("the longest lane", x.way(2, 3), 1000);
    }

    @Says(promise = 9, value = "come to LANES lane .. lane + n - 1 as their LENGTHS")
    static void layLeavesAShutLaneShut(Due due) {
        Desk x = lanes(due, 2);
        x.open(0, false);
        ints(x, 0, 500, 0);
        x.lay(0, 0, 1, 0);
        due.is("its length is another", x.about(0, 2), 500);
        due.is("it is shut still", x.about(0, 3), 0);
        x.lay(0, 1, 1, 0);
        due.is("one that may not be leaves the length", x.about(0, 2), 500);
        due.is("shut as before", x.about(0, 3), 0);
        x.open(0, true);
        due.is("by that length when it is open", x.way(0, 1), 500);
    }

    @Says(promise = 9, value = "NUMBER: r isn't 0 to 3; MISSING; KIND: it is no row of ints")
    static void layOfARowThatMayNotBe(Due due) {
        Desk x = lanes(due, 2);
        for (int r : new int[] {-1, 4, MIN, MAX}) due.is("r " + r, x.lay(r, 0, 1, 0), LampRound.NUMBER);
        due.is("missing", x.lay(0, 0, 1, 0), LampRound.MISSING);
        due.is("MISSING ahead of NUMBER", x.lay(0, -1, -1, -1), LampRound.MISSING);
        x.row(0, 0, 5);
        x.row(2, 2, 5);
        due.is("shorts", x.lay(0, 0, 1, 0), LampRound.KIND);
        due.is("longs", x.lay(2, 0, 1, 0), LampRound.KIND);
        due.is("KIND of nothing", x.lay(0, 0, 0, 0), LampRound.KIND);
        due.is("KIND ahead of n", x.lay(2, 0, -1, 0), LampRound.KIND);
        due.is("KIND ahead of from", x.lay(2, -1, 1, 0), LampRound.KIND);
        due.is("KIND ahead of how many", x.lay(0, 5, 1, 0), LampRound.KIND);
        due.is("KIND ahead of lane", x.lay(0, 0, 1, -1), LampRound.KIND);
        due.is("KIND ahead of the lanes", x.lay(0, 0, 1, 2), LampRound.KIND);
        x.row(0, 1, 5);
        due.is("ints now", x.lay(0, 0, 1, 0), 1);
        x.row(0, 0, 5);
        due.is("shorts again", x.lay(0, 0, 1, 0), LampRound.KIND);
    }

    @Says(promise = 9, value = "NUMBER: n or from is below 0")
    static void layOfNOrFromBelowNought(Due due) {
        Desk x = lanes(due, 3);
        ints(x, 1, 7, 7, 7);
        for (int n : new int[] {-1, -3, MIN}) due.is("n " + n, x.lay(1, 1, n, 1), LampRound.NUMBER);
        for (int from : new int[] {-1, -3, MIN}) due.is("from " + from, x.lay(1, from, 1, 1), LampRound.NUMBER);
        due.is("from + n may be, but from not", x.lay(1, -1, 2, 0), LampRound.NUMBER);
        due.is("nothing, from below", x.lay(1, -1, 0, 0), LampRound.NUMBER);
        due.is("n below, from behind the end", x.lay(1, 4, -1, 0), LampRound.NUMBER);
        due.is("n below, lane behind the end", x.lay(1, 0, -1, 4), LampRound.NUMBER);
        lengths(due, "nothing changed", x, 10, 11, 12);
    }

    @Says(promise = 9, value = "it has no n numbers from there on")
    static void layOfMoreThanTheRowHas(Due due) {
        Desk x = lanes(due, 9);
        ints(x, 1, 7, 7, 7);
        due.is("all three", x.lay(1, 0, 3, 0), 1);
        due.is("four", x.lay(1, 0, 4, 0), LampRound.NUMBER);
        due.is("two from 1", x.lay(1, 1, 2, 3), 1);
        due.is("three from 1", x.lay(1, 1, 3, 3), LampRound.NUMBER);
        due.is("one from 3", x.lay(1, 3, 1, 0), LampRound.NUMBER);
        due.is("none from 3", x.lay(1, 3, 0, 0), 1);
        due.is("none from 4", x.lay(1, 4, 0, 0), LampRound.NUMBER);
        due.is("none from the greatest", x.lay(1, MAX, 0, 0), LampRound.NUMBER);
        x.row(2, 1, 0);
        due.is("none of a row of none", x.lay(2, 0, 0, 0), 1);
        due.is("one of a row of none", x.lay(2, 0, 1, 0), LampRound.NUMBER);
        lengths(due, "what was laid", x, 7, 7, 7, 7, 7, 15, 16, 17, 18);
    }

    @Says(promise = 9, value = "lane is below 0, or lane + n above how many LANES there are")
    static void layBehindTheLanes(Due due) {
        Desk x = lanes(due, 3);
        ints(x, 1, 7, 7, 7, 7);
        due.is("four lanes", x.lay(1, 0, 4, 0), LampRound.NUMBER);
        due.is("three from 1", x.lay(1, 0, 3, 1), LampRound.NUMBER);
        due.is("one from 3", x.lay(1, 0, 1, 3), LampRound.NUMBER);
        for (int lane : new int[] {-1, -2, MIN}) due.is("lane " + lane, x.lay(1, 0, 1, lane), LampRound.NUMBER);
        due.is("lane + n may be, but lane not", x.lay(1, 0, 2, -1), LampRound.NUMBER);
        due.is("nothing, lane below", x.lay(1, 0, 0, -1), LampRound.NUMBER);
        due.is("nothing, behind the last", x.lay(1, 0, 0, 4), LampRound.NUMBER);
        due.is("nothing, lane the greatest", x.lay(1, 0, 0, MAX), LampRound.NUMBER);
        lengths(due, "nothing changed", x, 10, 11, 12);
        due.is("nothing, at the end", x.lay(1, 0, 0, 3), 1);
        lengths(due, "nothing laid", x, 10, 11, 12);
        due.is("two from 1", x.lay(1, 0, 2, 1), 1);
        lengths(due, "two from 1", x, 10, 7, 7);
        due.is("all three", x.lay(1, 0, 3, 0), 1);
        lengths(due, "all three", x, 7, 7, 7);
    }

    @Says(promise = 9, value = {"it has no n numbers from there on", "lane + n above how many LANES there are"})
    static void layWhereSumsWrapAround(Due due) {
        Desk x = lanes(due, 3);
        ints(x, 1, 7, 7, 7);
        due.is("from + n is the least int", x.lay(1, MAX, 1, 0), LampRound.NUMBER);
        due.is("from + n is -1", x.lay(1, MIN, MAX, 0), LampRound.NUMBER);
        due.is("from + n is -2", x.lay(1, MAX, MAX, 0), LampRound.NUMBER);
        due.is("n the greatest", x.lay(1, 0, MAX, 0), LampRound.NUMBER);
        due.is("n the greatest, from 1", x.lay(1, 1, MAX, 0), LampRound.NUMBER);
        due.is("lane + n is the least int", x.lay(1, 0, 1, MAX), LampRound.NUMBER);
        due.is("lane + n is near it", x.lay(1, 0, 3, MAX - 1), LampRound.NUMBER);
        due.is("lane + n is above the least int", x.lay(1, 0, 1, MIN), LampRound.NUMBER);
        due.is("all the greatest", x.lay(1, MAX, MAX, MAX), LampRound.NUMBER);
        due.is("all the least", x.lay(1, MIN, MIN, MIN), LampRound.NUMBER);
        lengths(due, "nothing changed", x, 10, 11, 12);
    }

    @Says(promise = 9, value = "Numbers from .. from + n - 1 of a ROW of ints come to LANES lane .. lane + n - 1")
    static void layOfAsManyAsMayBe(Due due) {
        Desk x = lanes(due, 100);
        x.row(0, 1, 50);
        for (int i = 0; i < 50; i++) x.cell(0, i, 500 + i);
        due.is("fifty to the last fifty", x.lay(0, 0, 50, 50), 1);
        due.is("fifty from lane 51", x.lay(0, 0, 50, 51), LampRound.NUMBER);
        due.is("fifty-one", x.lay(0, 0, 51, 0), LampRound.NUMBER);
        due.is("the last ahead", x.about(49, 2), 59);
        due.is("the first of them", x.about(50, 2), 500);
        due.is("the last of them", x.about(99, 2), 549);
    }

    @Says(promise = 9, value = "lane + n above how many LANES there are")
    static void layWithoutLanes(Due due) {
        Desk x = due.desk();
        x.row(0, 1, 1);
        due.is("nothing", x.lay(0, 0, 0, 0), 1);
        due.is("one", x.lay(0, 0, 1, 0), LampRound.NUMBER);
        due.is("nothing, behind", x.lay(0, 0, 0, 1), LampRound.NUMBER);
    }

    // ---- way, walk

    @Says(promise = 0, value = "(0 of one and itself); there may be none")
    static void theWayToItselfIsNought(Due due) {
        Desk x = due.desk();
        for (int a : new int[] {0, 20, 39}) due.is("without lanes " + a, x.way(a, a), 0);
        x.lane(0, 1, 1);
        due.is("with lanes", x.way(0, 0), 0);
        due.is("none to another", x.way(0, 2), LampRound.APART);
    }

    @Says(promise = 0, value = "WAY of two CROSSINGS is the least sum of LENGTHS of a WALK from the one to the other")
    static void theWayIsTheLeastSum(Due due) {
        Desk x = due.desk();
        x.lane(0, 9, 10);
        x.lane(0, 1, 4);
        x.lane(9, 1, 6);
        due.is("two lanes are as short as one", x.way(0, 9), 10);
        x.lane(1, 9, 5);
        due.is("two lanes are shorter than one", x.way(0, 9), 9);
        for (int i = 10; i < 17; i++) x.lane(i == 10 ? 0 : i, i == 16 ? 9 : i + 1, 1);
        due.is("seven lanes are shorter than two", x.way(0, 9), 7);
        due.is("and back", x.way(9, 0), 7);
        x.lane(9, 0, 6);
        due.is("a lane that comes later", x.way(0, 9), 6);
        x.row(0, 1, 1);
        x.lay(0, 0, 1, 0);
        due.is("a lane that is made shorter", x.way(0, 9), 1);
        x.cell(0, 0, 1000);
        x.lay(0, 0, 1, 0);
        due.is("a lane that is made longer", x.way(0, 9), 6);
    }

    @Says(promise = 0, value = "A WALK goes from CROSSING to CROSSING by OPEN LANES")
    static void aWayGoesByOpenLanesAlone(Due due) {
        Desk x = due.desk();
        x.lane(0, 1, 1);
        x.lane(1, 2, 1);
        x.lane(0, 2, 5);
        due.is("by 1", x.way(0, 2), 2);
        x.open(1, false);
        due.is("the other lane", x.way(0, 2), 5);
        due.is("walk", x.walk(0, 2, 1), 2);
        x.open(2, false);
        due.is("none", x.way(0, 2), LampRound.APART);
        due.is("none back", x.way(2, 0), LampRound.APART);
        due.is("no walk", x.walk(0, 2, 0), -1);
        x.open(1, true);
        due.is("by 1 again", x.way(2, 0), 2);
    }

    @Says(promise = 10, value = "NUMBER: one is none; APART.")
    static void wayOfNoCrossing(Due due) {
        Desk x = due.desk();
        x.lane(0, 39, 4);
        for (int none : new int[] {-1, 40, MIN, MAX}) {
            due.is("a " + none, x.way(none, 0), LampRound.NUMBER);
            due.is("b " + none, x.way(0, none), LampRound.NUMBER);
            due.is("none and itself " + none, x.way(none, none), LampRound.NUMBER);
        }
        due.is("0 to 39", x.way(0, 39), 4);
        due.is("APART", x.way(0, 38), LampRound.APART);
        due.is("APART", x.way(38, 39), LampRound.APART);
    }

    @Says(promise = 10, value = "The WAY of two CROSSINGS.")
    static void theLongestWay(Due due) {
        Desk x = due.desk();
        for (int i = 38; i >= 0; i--) x.lane(i, i + 1, 1000);
        due.is("all forty", x.way(0, 39), 39000);
        due.is("back", x.way(39, 0), 39000);
        due.is("the last of the walk", x.walk(39, 0, 39), 0);
        due.is("behind it", x.walk(39, 0, 40), -1);
        x.open(20, false);
        due.is("cut", x.way(0, 39), LampRound.APART);
    }

    @Says(promise = 11, value = "CROSSING i (from 0 on, a first) of THE WALK from a to b")
    static void aWalkByAHundredLanes(Due due) {
        Desk x = due.desk();
        // Of each crossing's lanes to the next the last one is shortest; the last lane of all leads to 39.
        for (int i = 0; i < 99; i++) x.lane(i / 3, i / 3 + 1, 9 - i % 3);
        x.lane(33, 39, 5);
        due.is("a hundred", x.many(0), 100);
        due.is("way", x.way(0, 39), 33 * 7 + 5);
        for (int i = 0; i <= 33; i++) due.is("there " + i, x.walk(0, 39, i), i);
        due.is("by the last lane", x.walk(0, 39, 34), 39);
        due.is("behind it", x.walk(0, 39, 35), -1);
        due.is("back by the last lane", x.walk(39, 0, 1), 33);
        due.is("back by the first lanes", x.walk(39, 0, 34), 0);
    }

    @Says(promise = 11, value = "CROSSING i (from 0 on, a first) of THE WALK from a to b")
    static void theFirstAndTheLastOfTheWalk(Due due) {
        Desk x = due.desk();
        x.lane(7, 3, 2);
        x.lane(3, 9, 2);
        int[] want = {7, 3, 9};
        for (int i = 0; i < 3; i++) due.is("there " + i, x.walk(7, 9, i), want[i]);
        for (int i = 0; i < 3; i++) due.is("back " + i, x.walk(9, 7, i), want[2 - i]);
        due.is("to itself", x.walk(7, 7, 0), 7);
        due.is("to itself without lanes", x.walk(39, 39, 0), 39);
    }

    @Says(promise = 11, value = "-1 if there is none such")
    static void walkOfNone(Due due) {
        Desk x = due.desk();
        x.lane(7, 3, 2);
        for (int i : new int[] {-1, 2, 39, 40, MIN, MAX}) due.is("i " + i, x.walk(7, 3, i), -1);
        for (int i : new int[] {-1, 1, MIN, MAX}) due.is("itself, i " + i, x.walk(7, 7, i), -1);
        for (int none : new int[] {-1, 40, MIN, MAX}) {
            due.is("a " + none, x.walk(none, 3, 0), -1);
            due.is("b " + none, x.walk(7, none, 0), -1);
            due.is("both " + none, x.walk(none, none, 0), -1);
        }
        due.is("no walk", x.walk(7, 4, 0), -1);
    }

    @Says(promise = 0, value = "THE WALK is, of those that are so short, the one with the lesser CROSSING where they are first unlike.")
    static void ofWalksSoShortTheLesserCrossing(Due due) {
        Desk x = due.desk();
        // From 5 to 6 by 9, 1, by 8, 2 and by 8, 3, each 3 long; and in one step of 3.
        int[][] lanes = {{5, 9}, {9, 1}, {1, 6}, {5, 8}, {8, 3}, {3, 6}, {8, 2}, {2, 6}};
        for (int[] l : lanes) x.lane(l[0], l[1], 1);
        int[] want = {5, 8, 2, 6};
        for (int i = 0; i < 4; i++) due.is("there " + i, x.walk(5, 6, i), want[i]);
        int[] back = {6, 1, 9, 5};
        for (int i = 0; i < 4; i++) due.is("back " + i, x.walk(6, 5, i), back[i]);
        x.lane(5, 6, 3);
        due.is("one step to the lesser 6", x.walk(5, 6, 1), 6);
        due.is("and nothing behind it", x.walk(5, 6, 2), -1);
        due.is("back, 1 is less than 5", x.walk(6, 5, 1), 1);
    }
}
