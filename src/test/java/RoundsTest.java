/** Promises 17 to 26. */
public final class RoundsTest {
    private static final Due due = new Due("RoundsTest");

    public static void main(String[] args) {
        least();
        leastOfEqualOnes();
        leastWithTwins();
        leastNever();
        large();
        second();
        with();
        putClearAt();
        length();
        keeps();
        turn();
        better();
        betterWithTwins();
        betterByIThenByJ();
        due.end();
    }

    private static void least() {
        Desk x = Towns.litSquare(due);
        Towns.tell(x, 2, 0);
        due.is("17 least", x.least(), 14);
        due.round("17 the round", x, 0, 1, 2, 3);
        Desk y = Towns.square(due);
        y.lamp(0, 0, 0);
        y.lamp(2, 0, 0);
        y.lamp(1, 0, 0);
        y.lamp(3, 0, 0);
        due.is("17 least, other numbers", y.least(), 14);
        due.round("17 as it is written", y, 0, 2, 1, 3);
        Desk z = Towns.square(due);
        z.lamp(0, 0, 0);
        z.lamp(1, 0, 0);
        due.is("17 two lamps", z.least(), LampRound.NEVER);
        z.lamp(2, 4, 0);
        due.is("17 three lamps", z.least(), 10);
        due.round("17 three lamps", z, 0, 1, 2);
        z.dark(2, true);
        due.is("17 two lamps that aren't out", z.least(), LampRound.NEVER);
    }

    private static void leastOfEqualOnes() {
        Desk x = Towns.star(due, 8);
        for (int i = 0; i < 8; i++) x.lamp(i, 0, 0);
        due.is("17 all alike", x.least(), 16);
        due.round("17 the first such", x, 0, 1, 2, 3, 4, 5, 6, 7);
        Desk y = Towns.star(due, 6);
        for (int i = 0; i < 6; i++) y.lamp(i, i == 0 ? 3 : i == 5 ? 1 : 0, 1);
        y.dark(0, true);
        due.is("17 without the one that is out", y.least(), 10);
        due.round("17 the first that keeps twins", y, 1, 2, 3, 4, 5);
    }

    private static void leastWithTwins() {
        Desk x = Towns.square(due);
        x.lamp(0, 0, 0);
        x.lamp(1, 0, 0);
        x.lamp(2, 0, 0);
        x.lamp(3, 1, 1);
        due.is("17 twins side by side", x.least(), 18);
        due.round("17 twins side by side", x, 0, 1, 3, 2);
        Desk y = Towns.square(due);
        y.lamp(0, 0, 0);
        y.lamp(1, 0, 0);
        y.lamp(2, 1, 0);
        y.lamp(3, 1, 1);
        due.is("17 two pairs of twins", y.least(), 18);
        Desk z = Towns.square(due);
        z.lamp(0, 0, 0);
        z.lamp(1, 3, 0);
        z.lamp(2, 0, 0);
        z.lamp(3, 1, 1);
        z.lane(0, 4, 1);
        z.lamp(4, 0, 0);
        due.is("17 the twin is lit", z.least(), 20);
        z.dark(1, true);
        due.is("17 the twin is out", z.least(), 16);
        due.round("17 the twin is out", z, 0, 2, 3, 4);
    }

    private static void leastNever() {
        Desk x = Towns.star(due, 6);
        for (int i = 0; i < 5; i++) x.lamp(i, i == 0 || i == 4 ? 0 : 1, 0);
        Towns.tell(x, 4, 2);
        due.is("17 three twins of one", x.least(), LampRound.NEVER);
        due.round("17 NEVER: the told round stays", x, 4, 2);
        Desk y = Towns.star(due, 3);
        for (int i = 0; i < 3; i++) y.lamp(i, 0, 0);
        y.open(2, false);
        Towns.tell(y, 1);
        due.is("17 one is apart", y.least(), LampRound.NEVER);
        due.round("17 apart: the told round stays", y, 1);
        due.is("17 none at all", due.desk().least(), LampRound.NEVER);
        Desk z = Towns.star(due, 6);
        z.lamp(0, 0, 0);
        z.lamp(1, 1, 0);
        z.lamp(2, 1, 1);
        z.lamp(3, 1, 0);
        due.is("17 a chain all round", z.least(), 8);
        due.round("17 a chain all round", z, 0, 1, 2, 3);
        z.lamp(4, 0, 0);
        z.lamp(5, 1, 2);
        due.is("17 a longer chain", z.least(), 12);
        due.round("17 a longer chain", z, 0, 1, 2, 5, 4, 3);
    }

    private static void large() {
        Desk x = Towns.star(due, 9);
        for (int i = 0; i < 9; i++) x.lamp(i, i == 8 ? 3 : 0, 0);
        due.is("17 LARGE", x.least(), LampRound.LARGE);
        due.is("18 STATE ahead of LARGE", x.second(), LampRound.STATE);
        due.is("19 LARGE", x.with(0, 1, true), LampRound.LARGE);
        due.is("19 NUMBER ahead of LARGE", x.with(0, 0, true), LampRound.NUMBER);
        Towns.tell(x, 0, 1, 2, 3, 4, 5, 6, 7, 8);
        due.is("18 LARGE", x.second(), LampRound.LARGE);
        due.is("23 LARGE has a length", x.length(), 18);
        due.is("17 LARGE again", x.least(), LampRound.LARGE);
        due.is("17 LARGE: the told round stays", x.many(4), 9);
        x.dark(8, true);
        due.is("17 eight aren't out", x.least(), 16);
        x.open(0, false);
        x.dark(8, false);
        due.is("17 LARGE ahead of NEVER", x.least(), LampRound.LARGE);
    }

    private static void second() {
        Desk x = Towns.litSquare(due);
        due.is("18 nothing is told", x.second(), LampRound.STATE);
        Towns.tell(x, 0, 1, 2);
        due.is("18 one is missing", x.second(), LampRound.STATE);
        x.least();
        due.is("18 the next best", x.second(), 18);
        due.round("18 the told round stays", x, 0, 1, 2, 3);
        Towns.tell(x, 2, 1, 0, 3);
        due.is("18 the same one, written otherwise", x.second(), 18);
        Towns.tell(x, 3, 1, 0, 2);
        due.is("18 another one is told", x.second(), 14);
        due.round("18 the told row stays as it stands", x, 3, 1, 0, 2);
        Desk y = Towns.star(due, 4);
        for (int i = 0; i < 4; i++) y.lamp(i, 0, 0);
        y.least();
        due.is("18 as short as the least", y.second(), 8);
        Desk z = Towns.square(due);
        for (int i = 0; i < 3; i++) z.lamp(i, 0, 0);
        z.least();
        due.is("18 of three there is one only", z.second(), LampRound.NEVER);
        z.lamp(3, 1, 1);
        Towns.tell(z, 0, 1, 2, 3);
        due.is("18 the told one keeps no twins", z.second(), 18);
        z.least();
        due.is("18 keeps twins", z.second(), 20);
        z.open(0, false);
        z.open(3, false);
        z.open(4, false);
        Towns.tell(z, 0, 1, 2, 3);
        due.is("18 apart", z.second(), LampRound.NEVER);
        Desk w = Towns.star(due, 2);
        w.lamp(0, 0, 0);
        w.lamp(1, 0, 0);
        Towns.tell(w, 0, 1);
        due.is("18 fewer than three", w.second(), LampRound.STATE);
    }

    private static void with() {
        Desk x = Towns.litSquare(due);
        Towns.tell(x, 3, 1);
        due.is("19 side by side", x.with(0, 2, true), 18);
        due.is("19 the other way about", x.with(2, 0, true), 18);
        due.is("19 side by side", x.with(1, 3, true), 18);
        due.is("19 side by side in the best", x.with(0, 3, true), 14);
        due.is("19 not side by side", x.with(0, 2, false), 14);
        due.is("19 not side by side", x.with(1, 0, false), 20);
        due.is("19 not side by side", x.with(0, 3, false), 18);
        due.round("19 the told round stays", x, 3, 1);
        due.is("19 no lamp", x.with(0, 4, true), LampRound.NUMBER);
        due.is("19 no lamp", x.with(-1, 0, true), LampRound.NUMBER);
        due.is("19 the same", x.with(2, 2, false), LampRound.NUMBER);
        Desk y = Towns.square(due);
        y.lamp(0, 0, 0);
        y.lamp(1, 0, 0);
        y.lamp(2, 3, 0);
        y.lamp(3, 1, 1);
        due.is("19 keeps twins", y.with(0, 1, true), 18);
        due.is("19 keeps twins", y.with(0, 1, false), 20);
        due.is("19 twins are always side by side", y.with(1, 3, false), LampRound.NEVER);
        y.dark(2, true);
        due.is("19 out", y.with(0, 2, true), LampRound.NUMBER);
        due.is("19 out", y.with(2, 0, true), LampRound.NUMBER);
        due.is("19 of three all are neighbours", y.with(0, 1, false), LampRound.NEVER);
        due.is("19 of three all are neighbours", y.with(0, 1, true), 14);
        y.open(0, false);
        y.open(1, false);
        due.is("19 apart", y.with(0, 1, true), LampRound.NEVER);
        Desk z = due.desk();
        z.lamp(0, 0, 0);
        z.lamp(1, 0, 0);
        z.lane(0, 1, 1);
        due.is("19 two only", z.with(0, 1, true), LampRound.NEVER);
    }

    private static void putClearAt() {
        Desk x = Towns.litSquare(due);
        due.is("20 no lamp", x.put(4), LampRound.NUMBER);
        due.is("20 no lamp", x.put(-1), LampRound.NUMBER);
        due.is("21 nothing", x.clear(), 0);
        due.is("20 first", x.put(3), 1);
        due.is("20 second", x.put(0), 2);
        due.is("20 in it already", x.put(3), LampRound.STATE);
        due.round("22 as it stands", x, 3, 0);
        due.is("22 below", x.at(-1), -1);
        due.is("22 far", x.at(Integer.MAX_VALUE), -1);
        due.is("21 had two", x.clear(), 2);
        due.is("21 is nothing", x.many(4), 0);
        due.is("22 nothing there", x.at(0), -1);
        x.lamp(10, 3, 0);
        x.dark(4, true);
        due.is("20 out", x.put(4), LampRound.STATE);
        x.dark(4, false);
        due.is("20 lit", x.put(4), 1);
        Desk y = due.desk();
        for (int i = 0; i < 12; i++) y.lamp(i, 0, 0);
        for (int i = 0; i < 12; i++) due.is("20 twelve", y.put(11 - i), i + 1);
        for (int i = 0; i < 12; i++) due.is("22 twelve", y.at(i), 11 - i);
        due.is("21 twelve", y.clear(), 12);
    }

    private static void length() {
        Desk x = Towns.litSquare(due);
        due.is("23 nothing", x.length(), LampRound.STATE);
        Towns.tell(x, 0, 1, 2);
        due.is("23 one is missing", x.length(), LampRound.STATE);
        x.put(3);
        due.is("23 length", x.length(), 14);
        Towns.tell(x, 1, 3, 2, 0);
        due.is("23 length", x.length(), 18);
        x.lamp(20, 3, 0);
        Towns.tell(x, 0, 1, 2, 3, 4);
        due.is("23 apart", x.length(), LampRound.APART);
        x.dark(4, true);
        due.is("23 nothing again", x.length(), LampRound.STATE);
        Towns.tell(x, 0, 2, 1, 3);
        due.is("23 all that aren't out", x.length(), 20);
        Desk y = Towns.star(due, 2);
        y.lamp(0, 0, 0);
        y.lamp(1, 0, 0);
        Towns.tell(y, 0, 1);
        due.is("23 fewer than three", y.length(), LampRound.STATE);
    }

    private static void keeps() {
        Desk x = Towns.square(due);
        x.lamp(0, 0, 0);
        x.lamp(1, 0, 0);
        x.lamp(2, 0, 0);
        x.lamp(3, 1, 1);
        due.is("24 nothing", x.keeps(), LampRound.STATE);
        Towns.tell(x, 0, 1, 2, 3);
        due.is("24 twins apart", x.keeps(), 0);
        Towns.tell(x, 0, 1, 3, 2);
        due.is("24 side by side", x.keeps(), 1);
        Towns.tell(x, 3, 0, 2, 1);
        due.is("24 the last and the first are neighbours", x.keeps(), 1);
        Towns.tell(x, 3, 0, 2);
        due.is("24 one is missing", x.keeps(), LampRound.STATE);
        Desk y = due.desk();
        y.lamp(0, 0, 0);
        y.lamp(1, 0, 0);
        Towns.tell(y, 0, 1);
        due.is("24 fewer than three", y.keeps(), LampRound.STATE);
        y.lamp(2, 3, 0);
        y.lamp(3, 1, 2);
        Towns.tell(y, 0, 2, 1, 3);
        due.is("24 without ways", y.keeps(), 0);
        y.dark(2, true);
        y.lamp(4, 2, 0);
        y.lane(4, 0, 3);
        Towns.tell(y, 4, 1, 0, 3);
        due.is("24 a corner's twin isn't beside it", y.keeps(), 0);
        Towns.tell(y, 4, 0, 1, 3);
        due.is("24 a corner's twin is beside it", y.keeps(), 1);
    }

    private static void turn() {
        Desk x = Towns.litSquare(due);
        due.is("25 STATE ahead of NUMBER", x.turn(-1, 9), LampRound.STATE);
        Towns.tell(x, 0, 1, 2);
        due.is("25 one is missing", x.turn(0, 1), LampRound.STATE);
        x.put(3);
        due.is("25 i below", x.turn(-1, 2), LampRound.NUMBER);
        due.is("25 i is j", x.turn(2, 2), LampRound.NUMBER);
        due.is("25 i above j", x.turn(2, 1), LampRound.NUMBER);
        due.is("25 j above", x.turn(0, 4), LampRound.NUMBER);
        due.is("25 far", x.turn(Integer.MIN_VALUE, Integer.MAX_VALUE), LampRound.NUMBER);
        due.round("25 refused ones change nothing", x, 0, 1, 2, 3);
        due.is("25 one alone", x.turn(0, 1), 1);
        due.round("25 one alone", x, 0, 1, 2, 3);
        due.is("25 three", x.turn(0, 3), 1);
        due.round("25 three", x, 0, 3, 2, 1);
        due.is("25 two", x.turn(1, 3), 1);
        due.round("25 two", x, 0, 3, 1, 2);
        Desk y = due.desk();
        for (int i = 0; i < 3; i++) y.lamp(i, 0, 0);
        Towns.tell(y, 2, 1, 0);
        due.is("25 without ways", y.turn(0, 2), 1);
        due.round("25 without ways", y, 2, 0, 1);
    }

    private static void better() {
        Desk x = Towns.litSquare(due);
        due.is("26 nothing", x.better(), LampRound.STATE);
        Towns.tell(x, 0, 2, 1, 3);
        due.is("26 once", x.better(), 1);
        due.round("26 once", x, 0, 1, 2, 3);
        due.is("26 no more", x.better(), 0);
        x.lamp(20, 0, 0);
        Towns.tell(x, 0, 1, 2, 3, 4);
        due.is("26 apart", x.better(), LampRound.APART);
        due.round("26 apart: it stays", x, 0, 1, 2, 3, 4);
        Desk y = Towns.star(due, 5);
        for (int i = 0; i < 5; i++) y.lamp(i, 0, 0);
        Towns.tell(y, 0, 3, 1, 4, 2);
        due.is("26 none is shorter", y.better(), 0);
        due.round("26 none is shorter", y, 0, 3, 1, 4, 2);
    }

    private static void betterWithTwins() {
        Desk x = Towns.square(due);
        x.lamp(0, 0, 0);
        x.lamp(1, 0, 0);
        x.lamp(2, 0, 0);
        x.lamp(3, 1, 1);
        Towns.tell(x, 0, 2, 1, 3);
        due.is("26 keeps what it kept", x.better(), 1);
        due.round("26 keeps what it kept", x, 0, 2, 3, 1);
        Desk y = Towns.square(due);
        y.lamp(0, 0, 0);
        y.lamp(1, 0, 0);
        y.lamp(2, 0, 0);
        y.lamp(3, 1, 0);
        y.lane(3, 1, 1);
        // Now 1-3 has 1, 0-3 has 3: 0 1 2 3 has 12, 0 1 3 2 has 12, 0 2 1 3 has 12.
        Towns.tell(y, 0, 1, 3, 2);
        due.is("26 all alike", y.better(), 0);
        Desk z = Towns.square(due);
        z.lamp(0, 0, 0);
        z.lamp(1, 0, 0);
        z.lamp(2, 1, 0);
        z.lamp(3, 1, 2);
        Towns.tell(z, 0, 2, 1, 3);
        due.is("26 it did not keep them ahead of it", z.keeps(), 0);
        due.is("26 so it need not keep them", z.better(), 1);
        due.round("26 so it need not keep them", z, 0, 1, 2, 3);
        due.is("26 nor does it now", z.keeps(), 0);
    }

    /** On a line 0 - 1 - .. - 5 of lanes of 1, each way is the difference of the numbers. */
    private static void betterByIThenByJ() {
        Desk x = due.desk();
        for (int i = 0; i < 5; i++) x.lane(i, i + 1, 1);
        for (int i = 0; i < 6; i++) x.lamp(i, 0, 0);
        Towns.tell(x, 0, 3, 1, 4, 2, 5);
        // 18: turn 0, 2 (0 1 3 4 2 5: 1 2 1 2 3 5 = 14), then 1, 3 leaves 14, 1, 4 (0 1 2 4 3 5: 12),
        // then 2, 4 (0 1 2 3 4 5: 10).
        due.is("26 length ahead of it", x.length(), 18);
        due.is("26 the first by i, then by j", x.better(), 3);
        due.is("26 length behind it", x.length(), 10);
        due.round("26 the first by i, then by j", x, 0, 1, 2, 3, 4, 5);
    }
}
