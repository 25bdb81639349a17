/** Promises 1 to 11. */
public final class LanesAndRowsTest {
    private static final Due due = new Due("LanesAndRowsTest");
    private static final long NONE = Long.MAX_VALUE;

    public static void main(String[] args) {
        newObject();
        lane();
        open();
        about();
        row();
        cell();
        told();
        lose();
        lay();
        layEmptiesTheToldRound();
        way();
        walk();
        due.end();
    }

    private static void newObject() {
        Desk x = due.desk();
        for (int what = 0; what <= 5; what++) due.is("1 many " + what, x.many(what), 0);
        for (int r = 0; r < 4; r++) {
            due.is("1 row is missing", x.told(r, 0), NONE);
            due.is("1 row is missing", x.lose(r), LampRound.MISSING);
        }
        due.is("1 at", x.at(0), -1);
        due.is("1 shown", x.shown(0, 0), Integer.MIN_VALUE);
        due.is("1 about", x.about(0, 0), LampRound.NUMBER);
        due.is("1 of", x.of(0, 0), Integer.MIN_VALUE);
        due.is("1 way", x.way(0, 1), LampRound.APART);
    }

    private static void lane() {
        Desk x = due.desk();
        due.is("2 a below", x.lane(-1, 1, 5), LampRound.NUMBER);
        due.is("2 a above", x.lane(40, 1, 5), LampRound.NUMBER);
        due.is("2 b below", x.lane(1, -1, 5), LampRound.NUMBER);
        due.is("2 b above", x.lane(1, 40, 5), LampRound.NUMBER);
        due.is("2 b far above", x.lane(1, Integer.MAX_VALUE, 5), LampRound.NUMBER);
        due.is("2 a far below", x.lane(Integer.MIN_VALUE, 1, 5), LampRound.NUMBER);
        due.is("2 same", x.lane(7, 7, 5), LampRound.NUMBER);
        due.is("2 length 0", x.lane(0, 1, 0), LampRound.NUMBER);
        due.is("2 length -5", x.lane(0, 1, -5), LampRound.NUMBER);
        due.is("2 length 1001", x.lane(0, 1, 1001), LampRound.NUMBER);
        due.is("2 refused ones change nothing", x.many(0), 0);
        for (int i = 0; i < 100; i++) due.is("2 number", x.lane(39, 0, i < 50 ? 1 : 1000), i);
        due.is("2 full", x.lane(39, 0, 1), LampRound.FULL);
        due.is("2 NUMBER ahead of FULL", x.lane(39, 39, 1), LampRound.NUMBER);
        due.is("2 many", x.many(0), 100);
        due.is("2 comes open", x.about(99, 3), 1);
    }

    private static void open() {
        Desk x = due.desk();
        due.is("3 none", x.open(0, false), LampRound.NUMBER);
        x.lane(0, 1, 5);
        due.is("3 below", x.open(-1, false), LampRound.NUMBER);
        due.is("3 above", x.open(1, false), LampRound.NUMBER);
        x.lamp(0, 0, 0);
        x.put(0);
        due.is("3 open already", x.open(0, true), 0);
        due.is("3 answers 0: the told round stays", x.many(4), 1);
        due.is("3 shut", x.open(0, false), 1);
        due.is("3 answers 1: the told round is nothing", x.many(4), 0);
        due.is("3 about", x.about(0, 3), 0);
        due.is("3 no way", x.way(0, 1), LampRound.APART);
        due.is("3 shut already", x.open(0, false), 0);
        due.is("3 open again", x.open(0, true), 1);
        due.is("3 way again", x.way(0, 1), 5);
    }

    private static void about() {
        Desk x = due.desk();
        x.lane(9, 4, 77);
        due.is("4 a", x.about(0, 0), 9);
        due.is("4 b", x.about(0, 1), 4);
        due.is("4 length", x.about(0, 2), 77);
        due.is("4 open", x.about(0, 3), 1);
        due.is("4 what 4", x.about(0, 4), LampRound.NUMBER);
        due.is("4 what -1", x.about(0, -1), LampRound.NUMBER);
        due.is("4 lane 1", x.about(1, 0), LampRound.NUMBER);
        due.is("4 lane -1", x.about(-1, 0), LampRound.NUMBER);
        due.is("4 lane 100", x.about(100, 0), LampRound.NUMBER);
    }

    private static void row() {
        Desk x = due.desk();
        due.is("5 r -1", x.row(-1, 0, 1), LampRound.NUMBER);
        due.is("5 r 4", x.row(4, 0, 1), LampRound.NUMBER);
        due.is("5 kind -1", x.row(0, -1, 1), LampRound.NUMBER);
        due.is("5 kind 3", x.row(0, 3, 1), LampRound.NUMBER);
        due.is("5 r ahead of SIZE", x.row(4, 0, -1), LampRound.NUMBER);
        due.is("5 kind ahead of SIZE", x.row(0, 3, -1), LampRound.NUMBER);
        due.is("5 SIZE", x.row(0, 0, -1), LampRound.SIZE);
        due.is("5 SIZE far", x.row(0, 0, Integer.MIN_VALUE), LampRound.SIZE);
        due.is("5 n 51", x.row(0, 0, 51), LampRound.NUMBER);
        due.is("5 refused: still missing", x.lose(0), LampRound.MISSING);
        for (int kind = 0; kind <= 2; kind++) {
            due.is("5 n 50", x.row(kind, kind, 50), 1);
            due.is("5 all 1", x.told(kind, 0), 1);
            due.is("5 all 1", x.told(kind, 49), 1);
            due.is("5 none behind", x.told(kind, 50), NONE);
        }
        due.is("5 n 0", x.row(3, 1, 0), 1);
        due.is("5 n 0 has none", x.told(3, 0), NONE);
        due.is("5 n 0 is there", x.lose(3), 1);
        x.cell(1, 2, 9);
        due.is("5 anew", x.row(1, 1, 5), 1);
        due.is("5 anew all 1", x.told(1, 2), 1);
        due.is("5 anew shorter", x.told(1, 5), NONE);
        due.is("5 anew of another kind", x.row(1, 0, 5), 1);
        x.cell(1, 0, 65536 + 3);
        due.is("5 anew as shorts", x.told(1, 0), 3);
    }

    private static void cell() {
        Desk x = due.desk();
        due.is("6 r -1", x.cell(-1, 0, 1), LampRound.NUMBER);
        due.is("6 r 4", x.cell(4, 0, 1), LampRound.NUMBER);
        due.is("6 missing ahead of i", x.cell(0, -1, 1), LampRound.MISSING);
        x.row(0, 0, 3);
        x.row(1, 1, 3);
        x.row(2, 2, 3);
        due.is("6 i -1", x.cell(0, -1, 1), LampRound.NUMBER);
        due.is("6 i 3", x.cell(0, 3, 1), LampRound.NUMBER);
        due.is("6 i far", x.cell(2, Integer.MAX_VALUE, 1), LampRound.NUMBER);
        due.is("6 short", x.cell(0, 0, 40000), 1);
        due.is("6 short cast", x.told(0, 0), 40000 - 65536);
        due.is("6 int", x.cell(1, 1, (1L << 31) + 5), 1);
        due.is("6 int cast", x.told(1, 1), Integer.MIN_VALUE + 5);
        due.is("6 long", x.cell(2, 2, Long.MIN_VALUE), 1);
        due.is("6 long whole", x.told(2, 2), Long.MIN_VALUE);
        due.is("6 beside it nothing changed", x.told(2, 1), 1);
    }

    private static void told() {
        Desk x = due.desk();
        due.is("7 r -1", x.told(-1, 0), NONE);
        due.is("7 r 4", x.told(4, 0), NONE);
        due.is("7 missing", x.told(2, 0), NONE);
        x.row(2, 2, 2);
        x.cell(2, 1, -8);
        due.is("7 number", x.told(2, 1), -8);
        due.is("7 i 2", x.told(2, 2), NONE);
        due.is("7 i -1", x.told(2, -1), NONE);
    }

    private static void lose() {
        Desk x = due.desk();
        due.is("8 r -1", x.lose(-1), LampRound.NUMBER);
        due.is("8 r 4", x.lose(4), LampRound.NUMBER);
        due.is("8 missing", x.lose(3), LampRound.MISSING);
        x.row(3, 1, 4);
        due.is("8 lost", x.lose(3), 1);
        due.is("8 told", x.told(3, 0), NONE);
        due.is("8 cell", x.cell(3, 0, 1), LampRound.MISSING);
        due.is("8 again", x.lose(3), LampRound.MISSING);
    }

    private static void lay() {
        Desk x = due.desk();
        for (int i = 0; i < 4; i++) x.lane(i, i + 1, 10 + i);
        due.is("9 r -1", x.lay(-1, 0, 1, 0), LampRound.NUMBER);
        due.is("9 r 4", x.lay(4, 0, 1, 0), LampRound.NUMBER);
        due.is("9 missing", x.lay(0, -1, -1, -1), LampRound.MISSING);
        x.row(0, 0, 5);
        x.row(1, 1, 5);
        x.row(2, 2, 5);
        due.is("9 shorts", x.lay(0, -1, 1, 0), LampRound.KIND);
        due.is("9 longs", x.lay(2, 0, 1, -1), LampRound.KIND);
        due.is("9 n below", x.lay(1, 0, -1, 0), LampRound.NUMBER);
        due.is("9 from below", x.lay(1, -1, 1, 0), LampRound.NUMBER);
        due.is("9 row too short", x.lay(1, 3, 3, 0), LampRound.NUMBER);
        due.is("9 wraps around", x.lay(1, Integer.MAX_VALUE, Integer.MAX_VALUE, 0), LampRound.NUMBER);
        due.is("9 lane below", x.lay(1, 0, 1, -1), LampRound.NUMBER);
        due.is("9 lanes too few", x.lay(1, 0, 2, 3), LampRound.NUMBER);
        due.is("9 lane wraps around", x.lay(1, 0, 1, Integer.MAX_VALUE), LampRound.NUMBER);
        due.is("9 nothing at the ends", x.lay(1, 5, 0, 4), 1);
        due.is("9 nothing behind the row", x.lay(1, 6, 0, 4), LampRound.NUMBER);
        due.is("9 nothing behind the lanes", x.lay(1, 5, 0, 5), LampRound.NUMBER);
        for (int i = 0; i < 4; i++) due.is("9 lengths stay", x.about(i, 2), 10 + i);
        long[] cells = {7, 1000, 1001, 0, -4};
        for (int i = 0; i < 5; i++) x.cell(1, i, cells[i]);
        x.open(1, false);
        due.is("9 laid", x.lay(1, 1, 3, 1), 1);
        int[] lengths = {10, 1000, 12, 13};
        int[] opens = {1, 0, 0, 0};
        for (int i = 0; i < 4; i++) {
            due.is("9 length of " + i, x.about(i, 2), lengths[i]);
            due.is("9 open " + i, x.about(i, 3), opens[i]);
        }
        due.is("9 to the end", x.lay(1, 0, 1, 3), 1);
        due.is("9 length 3", x.about(3, 2), 7);
        due.is("9 stays shut", x.about(3, 3), 0);
        due.is("9 the way is another", x.way(0, 1), 10);
        due.is("9 lay 0", x.lay(1, 0, 1, 0), 1);
        due.is("9 the way is another", x.way(0, 1), 7);
    }

    private static void layEmptiesTheToldRound() {
        Desk x = due.desk();
        x.lane(0, 1, 5);
        x.lamp(0, 0, 0);
        x.row(1, 1, 2);
        x.put(0);
        x.lay(1, 0, 2, 0);
        due.is("9 refused: the told round stays", x.many(4), 1);
        x.row(0, 1, 2);
        x.cell(1, 0, 3);
        due.is("9 rows leave the told round", x.many(4), 1);
        x.lay(1, 0, 0, 0);
        due.is("9 the told round is nothing", x.many(4), 0);
        x.put(0);
        x.lane(0, 0, 1);
        due.is("2 refused: the told round stays", x.many(4), 1);
        x.lane(0, 2, 1);
        due.is("2 the told round is nothing", x.many(4), 0);
    }

    private static void way() {
        Desk x = due.desk();
        due.is("10 a below", x.way(-1, 0), LampRound.NUMBER);
        due.is("10 b above", x.way(0, 40), LampRound.NUMBER);
        due.is("10 itself", x.way(39, 39), 0);
        due.is("10 apart", x.way(0, 39), LampRound.APART);
        for (int i = 0; i < 39; i++) x.lane(39 - i, 38 - i, 1000);
        due.is("10 the longest", x.way(0, 39), 39000);
        due.is("10 back", x.way(39, 0), 39000);
        x.lane(0, 20, 900);
        x.lane(0, 20, 800);
        due.is("10 the lesser of two lanes", x.way(0, 20), 800);
        x.open(40, false);
        due.is("10 only open lanes", x.way(0, 20), 900);
        x.lane(20, 1, 50);
        due.is("10 round about", x.way(0, 1), 950);
    }

    private static void walk() {
        Desk x = due.desk();
        due.is("11 a below", x.walk(-1, 0, 0), -1);
        due.is("11 b above", x.walk(0, 40, 0), -1);
        due.is("11 no walk", x.walk(0, 1, 0), -1);
        due.is("11 itself", x.walk(5, 5, 0), 5);
        due.is("11 itself has one", x.walk(5, 5, 1), -1);
        due.is("11 i below", x.walk(5, 5, -1), -1);
        // Two walks of 6 from 0 to 9: by 3, 2 and by 4, 1; the first step decides, not the second.
        x.lane(0, 3, 2);
        x.lane(3, 2, 2);
        x.lane(2, 9, 2);
        x.lane(0, 4, 2);
        x.lane(4, 1, 2);
        x.lane(1, 9, 2);
        x.lane(0, 9, 7);
        int[] there = {0, 3, 2, 9, -1};
        int[] back = {9, 1, 4, 0, -1};
        for (int i = 0; i < 5; i++) {
            due.is("11 there " + i, x.walk(0, 9, i), there[i]);
            due.is("11 back " + i, x.walk(9, 0, i), back[i]);
        }
        due.is("11 i far", x.walk(0, 9, Integer.MAX_VALUE), -1);
        x.open(1, false);
        due.is("11 by open lanes", x.walk(0, 9, 1), 4);
        x.lane(0, 9, 6);
        due.is("11 one lane, as short", x.walk(0, 9, 1), 4);
        x.lane(9, 0, 5);
        due.is("11 one lane, shorter", x.walk(0, 9, 1), 9);
        Desk y = due.desk();
        for (int i = 0; i < 39; i++) y.lane(i, i + 1, 1);
        due.is("11 the longest walk", y.walk(0, 39, 39), 39);
        due.is("11 behind the longest walk", y.walk(0, 39, 40), -1);
    }
}
