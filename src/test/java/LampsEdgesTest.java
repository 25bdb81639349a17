import java.io.IOException;

/** The edges of Terms 2 as far as it tells of LAMPS, and of promises 12 to 16. */
public final class LampsEdgesTest {
    private static final int MIN = Integer.MIN_VALUE;
    private static final int MAX = Integer.MAX_VALUE;

    public static void main(String[] args) throws IOException, IllegalAccessException {
        Sentences.hold(LampsEdgesTest.class);
    }

    /** A lamp of each kind, lamp k of kind k at crossing k; the TWIN's TWIN is 0. */
    private static Desk ofEachKind(Due due) {
        Desk x = due.desk();
        for (int kind = 0; kind <= 4; kind++) x.lamp(kind, kind, 0);
        return x;
    }

    // ---- what a lamp is

    @Says(promise = 0, value = {"LAMPS are 0 to 11, as they come", "KINDS: 0 LAMP; 1 TWIN: has a TWIN, another LAMP; 2 CORNER:", "3 DARK; 4 CHAPEL."})
    static void lampsAreNumberedAsTheyCome(Due due) {
        Desk x = due.desk();
        for (int i = 0; i < 12; i++) due.is("number", x.lamp(39 - i, i % 5, 0), i);
        for (int i = 0; i < 12; i++) due.is("crossing of " + i, x.of(i, 0), 39 - i);
        for (int i = 0; i < 12; i++) due.is("kind of " + i, x.of(i, 1), i % 5);
        due.is("none such", x.of(12, 0), MIN);
    }

    @Says(promise = 0, value = "each stands at a CROSSING, two never at one")
    static void twoLampsNeverStandAtOneCrossing(Due due) {
        for (int kind = 0; kind <= 4; kind++) {
            Desk x = due.desk();
            x.lamp(0, 0, 0);
            x.lamp(7, kind, 0);
            for (int other = 0; other <= 4; other++) due.is("kind " + other + " beside " + kind, x.lamp(7, other, 0), LampRound.STATE);
            due.is("none came", x.many(1), 2);
            due.is("at the next crossing", x.lamp(8, 0, 0), 2);
        }
    }

    @Says(promise = 0, value = "its TWIN is, of the other LAMPS that any WALK joins to it, the one with the least WAY")
    static void aCornersTwinHasTheLeastWay(Due due) {
        Desk x = due.desk();
        x.lane(5, 6, 9);
        x.lane(5, 10, 4);
        x.lane(10, 7, 4);
        x.lamp(6, 0, 0);
        x.lamp(5, 2, 0);
        x.lamp(7, 0, 0);
        due.is("two lanes of 4 ahead of one of 9", x.twin(1), 2);
        x.open(2, false);
        due.is("a lane is shut", x.twin(1), 0);
        x.lane(5, 6, 8);
        x.open(2, true);
        due.is("as near, the lesser number", x.twin(1), 0);
    }

    @Says(promise = 0, value = "of the other LAMPS that any WALK joins to it")
    static void aCornersTwinMayBeOut(Due due) {
        Desk x = due.desk();
        x.lane(0, 1, 1);
        x.lane(0, 2, 5);
        x.lamp(0, 2, 0);
        x.lamp(1, 3, 0);
        x.lamp(2, 0, 0);
        due.is("lit", x.twin(0), 1);
        x.dark(1, true);
        due.is("one that is out is one of the others", x.twin(0), 1);
        x.lamp(3, 4, 0);
        x.lane(0, 3, 1);
        x.dark(3, true);
        due.is("of two that are out the least number", x.twin(0), 1);
    }

    @Says(promise = 0, value = "its TWIN is, of the other LAMPS that any WALK joins to it")
    static void twoCornersMayBeEachOthersTwins(Due due) {
        Desk x = due.desk();
        x.lane(0, 1, 5);
        x.lane(1, 2, 6);
        x.lane(2, 3, 7);
        x.lane(3, 0, 8);
        x.lamp(0, 2, 0);
        x.lamp(1, 2, 0);
        x.lamp(2, 0, 0);
        x.lamp(3, 1, 0);
        due.is("0's", x.twin(0), 1);
        due.is("1's", x.twin(1), 0);
        due.is("bound on both sides", x.with(0, 1, false), LampRound.NEVER);
        due.is("and by another's twin", x.with(0, 3, false), LampRound.NEVER);
        due.is("least", x.least(), 26);
        due.round("least", x, 0, 1, 2, 3);
        Towns.tell(x, 0, 2, 1, 3);
        due.is("not side by side", x.keeps(), 0);
        Towns.lines(x, 1, 0, 1, 2, 0, 0, 6, 0, 1);
        due.is("TWINS", x.check(0), -1);
        Towns.lines(x, 1, 0, 1, 2, 0, 0, 6, 1, 0);
        due.is("TWINS the other way about", x.check(0), -1);
    }

    @Says(promise = 0, value = "of several the least number")
    static void ofSeveralTwinsTheLeastNumber(Due due) {
        Desk x = Towns.star(due, 12);
        for (int i = 0; i < 12; i++) x.lamp(11 - i, 2, 0);
        due.is("of lamp 0 it is 1: it isn't its own", x.twin(0), 1);
        for (int i = 1; i < 12; i++) due.is("of lamp " + i, x.twin(i), 0);
    }

    @Says(promise = 0, value = "(it has none if there is none)")
    static void aCornerMayHaveNoTwin(Due due) {
        Desk x = due.desk();
        x.lane(0, 1, 5);
        x.lamp(0, 2, 0);
        due.is("alone", x.twin(0), -1);
        x.lamp(2, 0, 0);
        due.is("no walk to the other", x.twin(0), -1);
        x.lane(1, 2, 5);
        due.is("a walk", x.twin(0), 1);
        x.open(0, false);
        due.is("by open lanes only", x.twin(0), -1);
    }

    @Says(promise = 0, value = "A DARK one or a CHAPEL is OUT or not (not at first).")
    static void noneIsOutAtFirst(Due due) {
        Desk x = ofEachKind(due);
        for (int l = 0; l < 5; l++) due.is("lamp " + l, x.of(l, 3), 0);
        due.is("none is out", x.many(2), 5);
        x.dark(3, true);
        x.dark(4, true);
        due.is("the dark one", x.of(3, 3), 1);
        due.is("the chapel", x.of(4, 3), 1);
        due.is("the next dark one isn't", x.lamp(9, 3, 0), 5);
        due.is("the next dark one isn't", x.of(5, 3), 0);
    }

    @Says(promise = 0, value = "WORTH is 1, of a CHAPEL 2.")
    static void worthOfEachKind(Due due) {
        Desk x = ofEachKind(due);
        int[] want = {1, 1, 1, 1, 2};
        for (int l = 0; l < 5; l++) due.is("kind " + l, x.of(l, 2), want[l]);
        due.is("together", x.many(5), 6);
        x.dark(4, true);
        due.is("without the chapel", x.many(5), 4);
        due.is("its own worth stays", x.of(4, 2), 2);
        x.dark(3, true);
        due.is("without the dark one", x.many(5), 3);
    }

    // ---- lamp

    @Says(promise = 12, value = "NUMBER: crossing is none")
    static void lampAtNoCrossing(Due due) {
        Desk x = due.desk();
        for (int none : new int[] {-1, 40, MIN, MAX}) due.is("crossing " + none, x.lamp(none, 0, 0), LampRound.NUMBER);
        due.is("none came", x.many(1), 0);
        due.is("0", x.lamp(0, 0, 0), 0);
        due.is("39", x.lamp(39, 0, 0), 1);
    }

    @Says(promise = 12, value = "kind isn't 0 to 4")
    static void lampOfNoKind(Due due) {
        Desk x = due.desk();
        for (int none : new int[] {-1, 5, MIN, MAX}) due.is("kind " + none, x.lamp(0, none, 0), LampRound.NUMBER);
        due.is("none came", x.many(1), 0);
        due.is("0", x.lamp(0, 0, 0), 0);
        due.is("4", x.lamp(1, 4, 0), 1);
    }

    @Says(promise = 12, value = "STATE: a LAMP stands there")
    static void lampWhereOneStands(Due due) {
        Desk x = due.desk();
        x.lamp(39, 3, 0);
        due.is("there", x.lamp(39, 0, 0), LampRound.STATE);
        x.dark(0, true);
        due.is("one that is out stands there", x.lamp(39, 0, 0), LampRound.STATE);
        due.is("NUMBER of kind ahead of it", x.lamp(39, 5, 0), LampRound.NUMBER);
        due.is("ahead of NUMBER of a TWIN's other", x.lamp(39, 1, 7), LampRound.STATE);
        due.is("crossing 0 is free", x.lamp(0, 0, 0), 1);
        due.is("now there", x.lamp(0, 0, 0), LampRound.STATE);
    }

    @Says(promise = 12, value = "NUMBER: of a TWIN: other is no LAMP")
    static void twinOfNoLamp(Due due) {
        Desk x = due.desk();
        due.is("of itself, the first", x.lamp(0, 1, 0), LampRound.NUMBER);
        x.lamp(0, 0, 0);
        x.lamp(1, 3, 0);
        for (int none : new int[] {-1, 2, 11, 12, MIN, MAX}) due.is("other " + none, x.lamp(2, 1, none), LampRound.NUMBER);
        due.is("none came", x.many(1), 2);
        due.is("of the first", x.lamp(2, 1, 0), 2);
        due.is("of the last, a twin itself", x.lamp(3, 1, 2), 3);
        x.dark(1, true);
        due.is("of one that is out", x.lamp(4, 1, 1), 4);
        due.is("of one that is out", x.twin(4), 1);
    }

    @Says(promise = 12, value = "Other is a TWIN's TWIN, else it counts nothing.")
    static void otherCountsNothingElse(Due due) {
        Desk x = due.desk();
        due.is("of a LAMP", x.lamp(0, 0, MIN), 0);
        due.is("of a CORNER", x.lamp(1, 2, MAX), 1);
        due.is("of a DARK one", x.lamp(2, 3, -1), 2);
        due.is("of a CHAPEL", x.lamp(3, 4, 12), 3);
        due.is("of a CORNER: no twin comes of it", x.lamp(4, 2, 0), 4);
        due.is("of a CORNER: no twin comes of it", x.twin(4), -1);
        due.is("of a TWIN", x.lamp(5, 1, 3), 5);
        due.is("of a TWIN", x.twin(5), 3);
    }

    @Says(promise = 12, value = {"A LAMP comes: its number.", "FULL: there are 12"})
    static void twelveLampsAreFull(Due due) {
        Desk x = due.desk();
        Towns.light(x, 11);
        due.is("the twelfth", x.lamp(20, 3, 0), 11);
        due.is("one more", x.lamp(21, 0, 0), LampRound.FULL);
        due.is("a twin more", x.lamp(21, 1, 11), LampRound.FULL);
        x.dark(11, true);
        due.is("one that is out counts", x.lamp(21, 0, 0), LampRound.FULL);
        due.is("NUMBER of crossing ahead of it", x.lamp(40, 0, 0), LampRound.NUMBER);
        due.is("NUMBER of kind ahead of it", x.lamp(21, 5, 0), LampRound.NUMBER);
        due.is("STATE ahead of it", x.lamp(0, 0, 0), LampRound.STATE);
        due.is("NUMBER of other ahead of it", x.lamp(21, 1, 12), LampRound.NUMBER);
        due.is("still twelve", x.many(1), 12);
    }

    // ---- dark

    @Says(promise = 13, value = "A DARK LAMP or a CHAPEL is OUT, or not: 1 if that changes something, else 0")
    static void darkTellsWhetherItChanges(Due due) {
        Desk x = ofEachKind(due);
        for (int l = 3; l <= 4; l++) {
            due.is("lit already", x.dark(l, false), 0);
            due.is("out", x.dark(l, true), 1);
            due.is("out already", x.dark(l, true), 0);
            due.is("is out", x.of(l, 3), 1);
            due.is("lit again", x.dark(l, false), 1);
            due.is("isn't out", x.of(l, 3), 0);
        }
    }

    @Says(promise = 13, value = "NUMBER: there is no such LAMP")
    static void darkOfNoLamp(Due due) {
        Desk x = ofEachKind(due);
        for (int none : new int[] {-1, 5, 11, 12, MIN, MAX}) {
            due.is("out " + none, x.dark(none, true), LampRound.NUMBER);
            due.is("lit " + none, x.dark(none, false), LampRound.NUMBER);
        }
        due.is("the last", x.dark(4, true), 1);
        Desk y = due.desk();
        due.is("none at all", y.dark(0, true), LampRound.NUMBER);
        y.lamp(0, 3, 0);
        due.is("the first", y.dark(0, true), 1);
    }

    @Says(promise = 13, value = "KIND: it is another one")
    static void darkOfAnotherKind(Due due) {
        Desk x = ofEachKind(due);
        for (int l = 0; l <= 2; l++) {
            due.is("out, kind " + l, x.dark(l, true), LampRound.KIND);
            due.is("lit, kind " + l, x.dark(l, false), LampRound.KIND);
            due.is("isn't out, kind " + l, x.of(l, 3), 0);
        }
    }

    // ---- twin

    @Says(promise = 14, value = "NUMBER is answered as -2 here: there is no such LAMP")
    static void twinAskedOfNoLamp(Due due) {
        Desk x = ofEachKind(due);
        for (int none : new int[] {-1, 5, 11, 12, MIN, MAX}) due.is("lamp " + none, x.twin(none), -2);
        due.is("none at all", due.desk().twin(0), -2);
    }

    @Says(promise = 14, value = "KIND: it is another kind.")
    static void twinAskedOfAnotherKind(Due due) {
        Desk x = ofEachKind(due);
        for (int l : new int[] {0, 3, 4}) due.is("kind " + l, x.twin(l), LampRound.KIND);
        x.dark(3, true);
        due.is("of one that is out", x.twin(3), LampRound.KIND);
        due.is("a TWIN", x.twin(1), 0);
        due.is("a CORNER without lanes", x.twin(2), -1);
    }

    @Says(promise = 14, value = "The TWIN of a TWIN or CORNER; -1: it has none.")
    static void aTwinHasItsTwinWithoutAWay(Due due) {
        Desk x = ofEachKind(due);
        due.is("a TWIN needs no way", x.twin(1), 0);
        due.is("a CORNER does", x.twin(2), -1);
        x.lane(2, 4, 1000);
        due.is("now it has one", x.twin(2), 4);
        x.row(0, 1, 1);
        x.cell(0, 0, 0);
        x.lay(0, 0, 1, 0);
        due.is("and none when lay() shuts the lane", x.twin(2), -1);
        due.is("a TWIN's stays", x.twin(1), 0);
    }

    // ---- of, many

    @Says(promise = 15, value = "Of a LAMP: what = 0 its CROSSING, 1 its KIND, 2 its WORTH, 3 1 if it is OUT, else 0, 4 its PRICE.")
    static void ofEachWhat(Due due) {
        Desk x = due.desk();
        x.lamp(39, 0, 0);
        x.lamp(0, 4, 0);
        x.dark(1, true);
        x.price(1, -100000);
        int[][] want = {{39, 0, 1, 0, 0}, {0, 4, 2, 1, -100000}};
        for (int l = 0; l < 2; l++) for (int w = 0; w < 5; w++) due.is("lamp " + l + " what " + w, x.of(l, w), want[l][w]);
    }

    @Says(promise = 15, value = "NUMBER is answered as -2^31 here: there is none such, another what.")
    static void ofNoLampOrAnotherWhat(Due due) {
        Desk x = ofEachKind(due);
        for (int none : new int[] {-1, 5, 11, 12, MIN, MAX}) for (int w = 0; w < 5; w++) due.is("lamp " + none + " what " + w, x.of(none, w), MIN);
        for (int none : new int[] {-1, 5, MIN, MAX}) due.is("what " + none, x.of(4, none), MIN);
        due.is("none at all", due.desk().of(0, 0), MIN);
        // A price that is NUMBER's value is no refusal.
        x.price(0, -1);
        due.is("a price of -1", x.of(0, 4), -1);
    }

    @Says(promise = 16, value = "How many: what = 0 LANES, 1 LAMPS, 2 LAMPS that aren't OUT, 3 LINES of the told PROOF, 4 LAMPS of THE TOLD ROUND, 5 the WORTH of all LAMPS that aren't OUT together")
    static void manyOfAsManyAsMayBe(Due due) {
        Desk x = due.desk();
        for (int i = 0; i < 100; i++) x.lane(i % 39, 39, 1);
        for (int i = 0; i < 12; i++) x.lamp(i, 4, 0);
        for (int i = 0; i < 12; i++) x.put(i);
        while (x.line(2, 0, 0) < 300) { }
        int[] want = {100, 12, 12, 300, 12, 24};
        for (int what = 0; what <= 5; what++) due.is("what " + what, x.many(what), want[what]);
        for (int i = 0; i < 12; i++) x.dark(i, true);
        int[] out = {100, 12, 0, 300, 0, 0};
        for (int what = 0; what <= 5; what++) due.is("all are out, what " + what, x.many(what), out[what]);
    }

    @Says(promise = 16, value = "3 LINES of the told PROOF")
    static void manyOfFourHundredLines(Due due) {
        Desk x = due.desk();
        for (int i = 0; i < 400; i++) x.line(6, 0, 0);
        due.is("as many as may be", x.many(3), 400);
        x.line(6, 0, 0);
        due.is("and one that was refused", x.many(3), 400);
    }

    @Says(promise = 16, value = "-1 for another what.")
    static void manyOfAnotherWhat(Due due) {
        Desk x = ofEachKind(due);
        for (int what : new int[] {-1, 6, MIN, MAX}) due.is("what " + what, x.many(what), -1);
        due.is("what 0", x.many(0), 0);
        due.is("what 5", x.many(5), 6);
    }
}
