/** Promises 12 to 16. */
public final class LampsTest {
    private static final Due due = new Due("LampsTest");

    public static void main(String[] args) {
        lamp();
        dark();
        twin();
        twinThatIsOut();
        of();
        many();
        due.end();
    }

    private static void lamp() {
        Desk x = due.desk();
        due.is("12 crossing below", x.lamp(-1, 0, 0), LampRound.NUMBER);
        due.is("12 crossing above", x.lamp(40, 0, 0), LampRound.NUMBER);
        due.is("12 kind below", x.lamp(0, -1, 0), LampRound.NUMBER);
        due.is("12 kind above", x.lamp(0, 5, 0), LampRound.NUMBER);
        due.is("12 twin of itself", x.lamp(0, 1, 0), LampRound.NUMBER);
        due.is("12 refused ones change nothing", x.many(1), 0);
        due.is("12 first", x.lamp(39, 0, -7), 0);
        due.is("12 twin of none", x.lamp(1, 1, 1), LampRound.NUMBER);
        due.is("12 twin of none", x.lamp(1, 1, -1), LampRound.NUMBER);
        due.is("12 NUMBER ahead of STATE", x.lamp(39, 5, 0), LampRound.NUMBER);
        due.is("12 STATE ahead of the twin's NUMBER", x.lamp(39, 1, 9), LampRound.STATE);
        x.put(0);
        due.is("12 refused: the told round stays", x.many(4), 1);
        due.is("12 second", x.lamp(0, 1, 0), 1);
        due.is("12 the told round is nothing", x.many(4), 0);
        for (int i = 2; i < 12; i++) due.is("12 number", x.lamp(i, i % 2 == 0 ? 3 : 4, 99), i);
        due.is("12 full", x.lamp(20, 0, 0), LampRound.FULL);
        due.is("12 STATE ahead of FULL", x.lamp(39, 0, 0), LampRound.STATE);
        due.is("12 the twin's NUMBER ahead of FULL", x.lamp(20, 1, 12), LampRound.NUMBER);
        due.is("12 full of a twin", x.lamp(20, 1, 11), LampRound.FULL);
        x.dark(2, true);
        due.is("12 one that is out stands there", x.lamp(2, 0, 0), LampRound.STATE);
        due.is("12 one that is out counts", x.lamp(20, 0, 0), LampRound.FULL);
    }

    private static void dark() {
        Desk x = due.desk();
        due.is("13 none", x.dark(0, true), LampRound.NUMBER);
        for (int kind = 0; kind <= 4; kind++) x.lamp(kind, kind, 0);
        due.is("13 below", x.dark(-1, true), LampRound.NUMBER);
        due.is("13 above", x.dark(5, true), LampRound.NUMBER);
        for (int kind = 0; kind <= 2; kind++) {
            due.is("13 another kind", x.dark(kind, true), LampRound.KIND);
            due.is("13 another kind, lit", x.dark(kind, false), LampRound.KIND);
        }
        due.is("13 a dark one isn't out at first", x.dark(3, false), 0);
        due.is("13 a chapel isn't out at first", x.dark(4, false), 0);
        due.is("13 a dark one", x.dark(3, true), 1);
        due.is("13 a chapel", x.dark(4, true), 1);
        due.is("13 both are out", x.many(2), 3);
        due.is("13 a chapel again", x.dark(4, false), 1);
        due.is("13 one is out", x.many(2), 4);
    }

    private static void twin() {
        Desk x = due.desk();
        due.is("14 none", x.twin(0), -2);
        x.lamp(0, 0, 0);
        x.lamp(1, 1, 0);
        x.lamp(2, 2, 0);
        x.lamp(3, 3, 0);
        x.lamp(4, 4, 0);
        due.is("14 below", x.twin(-1), -2);
        due.is("14 above", x.twin(5), -2);
        due.is("14 of a lamp", x.twin(0), LampRound.KIND);
        due.is("14 of a twin", x.twin(1), 0);
        due.is("14 of a corner without lanes", x.twin(2), -1);
        due.is("14 of a dark one", x.twin(3), LampRound.KIND);
        due.is("14 of a chapel", x.twin(4), LampRound.KIND);
        due.is("13 of a lamp", x.dark(0, true), LampRound.KIND);
        due.is("13 of a twin", x.dark(1, true), LampRound.KIND);
        due.is("13 of a corner", x.dark(2, true), LampRound.KIND);
        x.lane(2, 4, 6);
        due.is("14 the only one", x.twin(2), 4);
        x.lane(2, 3, 6);
        due.is("14 of several the least number", x.twin(2), 3);
        x.lane(4, 10, 1);
        x.lane(10, 0, 1);
        due.is("14 not by the number alone", x.twin(2), 3);
        x.lane(2, 10, 4);
        due.is("14 the least way", x.twin(2), 0);
        x.open(4, false);
        due.is("14 by open lanes", x.twin(2), 3);
        Desk y = due.desk();
        y.lane(0, 1, 5);
        y.lamp(0, 2, 0);
        due.is("14 a corner alone", y.twin(0), -1);
        y.lamp(1, 2, 0);
        due.is("14 each other's", y.twin(0), 1);
        due.is("14 each other's", y.twin(1), 0);
    }

    private static void twinThatIsOut() {
        Desk x = due.desk();
        x.lane(0, 1, 1);
        x.lane(1, 2, 5);
        x.lamp(0, 3, 0);
        x.lamp(1, 2, 0);
        x.lamp(2, 0, 0);
        x.lamp(3, 1, 0);
        due.is("13 goes out", x.dark(0, true), 1);
        due.is("14 a corner's twin may be out", x.twin(1), 0);
        due.is("14 a twin's twin may be out", x.twin(3), 0);
        due.is("13 out already", x.dark(0, true), 0);
        x.put(1);
        due.is("13 answers 0: the told round stays", x.dark(0, true) * 10 + x.many(4), 1);
        due.is("13 lit again", x.dark(0, false), 1);
        due.is("13 answers 1: the told round is nothing", x.many(4), 0);
        due.is("13 lit already", x.dark(0, false), 0);
    }

    private static void of() {
        Desk x = due.desk();
        due.is("15 none", x.of(0, 0), Integer.MIN_VALUE);
        x.lamp(30, 0, 0);
        x.lamp(31, 1, 0);
        x.lamp(32, 2, 0);
        x.lamp(33, 3, 0);
        x.lamp(34, 4, 0);
        for (int l = 0; l < 5; l++) {
            due.is("15 crossing", x.of(l, 0), 30 + l);
            due.is("15 kind", x.of(l, 1), l);
            due.is("15 worth", x.of(l, 2), l == 4 ? 2 : 1);
            due.is("15 out", x.of(l, 3), 0);
            due.is("15 price", x.of(l, 4), 0);
        }
        x.dark(4, true);
        x.price(4, -9);
        due.is("15 out", x.of(4, 3), 1);
        due.is("15 worth of one that is out", x.of(4, 2), 2);
        due.is("15 price", x.of(4, 4), -9);
        due.is("15 what 5", x.of(0, 5), Integer.MIN_VALUE);
        due.is("15 what -1", x.of(0, -1), Integer.MIN_VALUE);
        due.is("15 lamp 5", x.of(5, 0), Integer.MIN_VALUE);
        due.is("15 lamp -1", x.of(-1, 0), Integer.MIN_VALUE);
        due.is("15 lamp 12", x.of(12, 0), Integer.MIN_VALUE);
    }

    private static void many() {
        Desk x = due.desk();
        x.lane(0, 1, 1);
        x.lane(0, 1, 1);
        x.lamp(0, 0, 0);
        x.lamp(1, 4, 0);
        x.lamp(2, 3, 0);
        x.lamp(3, 4, 0);
        x.lamp(4, 0, 0);
        x.dark(2, true);
        x.dark(3, true);
        x.put(1);
        for (int i = 0; i < 7; i++) x.line(2, 0, 0);
        int[] want = {2, 5, 3, 7, 1, 4};
        for (int what = 0; what <= 5; what++) due.is("16 what " + what, x.many(what), want[what]);
        due.is("16 what 6", x.many(6), -1);
        due.is("16 what -1", x.many(-1), -1);
    }
}
