import java.io.IOException;
import java.util.ArrayList;
import java.util.List;
import java.util.function.Consumer;
import java.util.function.ToLongFunction;

/**
 * 'A call that is refused (answers below 0, where not told otherwise) changes nothing. Of several
 * refusals that a call names the first one named is answered.' Each refusal that a promise names is
 * called for on its own and beside those named behind it; then all that can be asked of the object is
 * asked, and must be as it is of one that was built alike and not refused anything.
 */
public final class RefusalsTest {
    private static final int MIN = Integer.MIN_VALUE;
    private static final int MAX = Integer.MAX_VALUE;
    private static final int NUMBER = LampRound.NUMBER;
    private static final int FULL = LampRound.FULL;
    private static final int MISSING = LampRound.MISSING;
    private static final int STATE = LampRound.STATE;
    private static final int KIND = LampRound.KIND;
    private static final int SIZE = LampRound.SIZE;
    private static final int NEVER = LampRound.NEVER;
    private static final int LARGE = LampRound.LARGE;
    private static final int SPENT = LampRound.SPENT;
    private static final int APART = LampRound.APART;
    /** No question takes more calls than this. */
    private static final int DEAREST = 4;

    private static Document document;
    private static int rows = 0;
    private static int wrong = 0;

    public static void main(String[] args) throws IOException {
        document = new Document();
        lanes();
        rowsOfNumbers();
        lay();
        lamps();
        rounds();
        toldRounds();
        prices();
        proofs();
        System.out.println("RefusalsTest: " + rows + " refusals, " + (wrong == 0 ? "all answers are as due" : wrong + " answers are not as due"));
        if (wrong != 0) System.exit(1);
    }

    // ---- the towns

    /** Something of everything: a shut lane, a row of each kind, a lamp of each kind, one that is out. */
    private static void town(Desk x) {
        int[][] lanes = {{0, 1, 2}, {1, 2, 3}, {2, 3, 4}, {3, 0, 5}, {0, 2, 6}, {4, 5, 7}, {3, 4, 9}};
        for (int[] l : lanes) x.lane(l[0], l[1], l[2]);
        x.open(5, false);
        for (int r = 0; r < 3; r++) {
            x.row(r, r, 3 + r);
            x.cell(r, 1, 77);
        }
        x.lamp(0, 0, 0);
        x.lamp(1, 3, 0);
        x.lamp(2, 0, 0);
        x.lamp(3, 1, 1);
        x.lamp(4, 2, 0);
        x.lamp(5, 4, 0);
        x.dark(5, true);
        x.price(2, 7);
        x.price(5, -3);
        Towns.lines(x, 1, 0, 1, 2, 9, -9, 6, 1, 3);
        Towns.tell(x, 2, 0);
    }

    /** The town, with all lamps that aren't out told. */
    private static void wholeTown(Desk x) {
        town(x);
        Towns.tell(x, 0, 2, 1, 3, 4);
    }

    /** The town, whole, but a lane is shut, so that lamp 4 is apart. */
    private static void partedTown(Desk x) {
        town(x);
        x.open(6, false);
        Towns.tell(x, 0, 2, 1, 3, 4);
    }

    /** As the parted town, but not all lamps are told. */
    private static void partedTownNotWhole(Desk x) {
        partedTown(x);
        Towns.tell(x, 4, 0);
    }

    private static void fullOfLanes(Desk x) {
        for (int i = 0; i < 100; i++) x.lane(i % 39, 39, 1 + i);
        Towns.light(x, 4);
        Towns.tell(x, 3, 1);
    }

    private static void fullOfLamps(Desk x) {
        for (int i = 0; i < 12; i++) x.lane(39, i, 1 + i);
        for (int i = 0; i < 12; i++) x.lamp(i, i % 5, 0);
        Towns.tell(x, 11, 4, 0);
    }

    private static void fullOfLines(Desk x) {
        for (int i = 0; i < 3; i++) x.lane(39, i, 1);
        Towns.light(x, 3);
        for (int i = 0; i < 400; i++) x.line(1 + i % 6, i, -i);
    }

    /** Two lamps that aren't out, both told; some lines, some prices. */
    private static void pair(Desk x) {
        for (int i = 0; i < 3; i++) x.lane(39, i, 1);
        x.lamp(0, 0, 0);
        x.lamp(1, 4, 0);
        x.lamp(2, 3, 0);
        x.dark(2, true);
        x.price(0, 5);
        x.price(2, 6);
        Towns.lines(x, 2, 0, 0, 3, 1, 1);
        Towns.tell(x, 1, 0);
    }

    /** Nine lamps that aren't out, all told; one is apart, so that there is no ROUND either. */
    private static void largeTown(Desk x) {
        for (int i = 0; i < 8; i++) x.lane(39, i, 1);
        Towns.light(x, 8);
        x.lamp(8, 3, 0);
        Towns.tell(x, 8, 7, 6, 5, 4, 3, 2, 1, 0);
    }

    private static void largeTownNotWhole(Desk x) {
        largeTown(x);
        Towns.tell(x, 8, 7);
    }

    /** Three twins of one lamp: no round keeps them. */
    private static void neverTown(Desk x) {
        for (int i = 0; i < 5; i++) x.lane(39, i, 1);
        x.lamp(0, 0, 0);
        for (int i = 1; i < 4; i++) x.lamp(i, 1, 0);
        x.lamp(4, 0, 0);
        Towns.tell(x, 4, 3, 2, 1, 0);
    }

    private static void nothing(Desk x) {
    }

    // ---- how a refusal is held

    private static void refused(int promise, String words, Consumer<Desk> town, ToLongFunction<Desk> call, long want) {
        rows++;
        Due due = new Due("RefusalsTest " + rows + ", promise " + promise + " '" + words + "'");
        if (!document.says(promise, words)) due.fault("the document doesn't say so");
        List<ToLongFunction<Desk>> questions = questions(built(town, due));
        int asked = 0;
        while (asked < questions.size()) {
            Desk plain = built(town, due);
            Desk refused = built(town, due);
            due.is("the answer", call.applyAsLong(refused), want);
            while (asked < questions.size() && refused.left() >= DEAREST) {
                ToLongFunction<Desk> question = questions.get(asked);
                due.is("question " + asked + " behind it", question.applyAsLong(refused), question.applyAsLong(plain));
                asked++;
            }
        }
        wrong += due.wrong();
    }

    private static Desk built(Consumer<Desk> town, Due due) {
        Desk x = due.desk();
        town.accept(x);
        return x;
    }

    /** All that can be asked of an object like this one, what changes something last. */
    private static List<ToLongFunction<Desk>> questions(Desk like) {
        List<ToLongFunction<Desk>> all = new ArrayList<>();
        each(6, w -> all.add(x -> x.many(w)));
        each(like.many(0), l -> each(4, w -> all.add(x -> x.about(l, w))));
        each(4, r -> each(51, i -> all.add(x -> x.told(r, i))));
        each(like.many(1), l -> each(5, w -> all.add(x -> x.of(l, w))));
        each(like.many(1), l -> all.add(x -> x.twin(l)));
        each(13, i -> all.add(x -> x.at(i)));
        each(like.many(3) + 1, i -> each(3, w -> all.add(x -> x.shown(i, w))));
        each(13, i -> all.add(x -> x.taken(i)));
        each(8, c -> all.add(x -> x.way(0, c)));
        all.add(Desk::bound);
        all.add(Desk::length);
        all.add(Desk::keeps);
        all.add(x -> x.check(0));
        all.add(x -> x.check(17));
        all.add(Desk::second);
        all.add(x -> x.with(0, 1, true));
        each(4, r -> all.add(x -> kindOf(x, r)));
        all.add(x -> x.lane(0, 1, 1));
        all.add(x -> x.lamp(30, 0, 0));
        all.add(x -> x.line(1, 0, 0));
        return all;
    }

    private static void each(int n, Consumer<Integer> what) {
        for (int i = 0; i < n; i++) what.accept(i);
    }

    /** What a row makes of a number tells its kind. */
    private static long kindOf(Desk x, int r) {
        x.cell(r, 0, (3L << 40) + (5L << 20) + 7);
        return x.told(r, 0);
    }

    // ---- the refusals, by promises

    private static void lanes() {
        refused(2, "a or b is no CROSSING", RefusalsTest::town, x -> x.lane(-1, 1, 5), NUMBER);
        refused(2, "a or b is no CROSSING", RefusalsTest::town, x -> x.lane(1, 40, 5), NUMBER);
        refused(2, "they are the same", RefusalsTest::town, x -> x.lane(3, 3, 5), NUMBER);
        refused(2, "length isn't 1 to 1000", RefusalsTest::town, x -> x.lane(0, 1, 0), NUMBER);
        refused(2, "length isn't 1 to 1000", RefusalsTest::town, x -> x.lane(0, 1, 1001), NUMBER);
        refused(2, "FULL", RefusalsTest::fullOfLanes, x -> x.lane(0, 1, 5), FULL);
        refused(2, "a or b is no CROSSING", RefusalsTest::fullOfLanes, x -> x.lane(40, 1, 5), NUMBER);
        refused(2, "they are the same", RefusalsTest::fullOfLanes, x -> x.lane(1, 1, 5), NUMBER);
        refused(2, "length isn't 1 to 1000", RefusalsTest::fullOfLanes, x -> x.lane(0, 1, MAX), NUMBER);
        refused(3, "NUMBER: there is none such.", RefusalsTest::wholeTown, x -> x.open(7, false), NUMBER);
        refused(3, "NUMBER: there is none such.", RefusalsTest::wholeTown, x -> x.open(-1, true), NUMBER);
        refused(4, "NUMBER: there is none such, another what.", RefusalsTest::town, x -> x.about(7, 0), NUMBER);
        refused(4, "NUMBER: there is none such, another what.", RefusalsTest::town, x -> x.about(0, 4), NUMBER);
        refused(10, "NUMBER: one is none", RefusalsTest::town, x -> x.way(40, 0), NUMBER);
        refused(10, "APART", RefusalsTest::town, x -> x.way(0, 5), APART);
        refused(11, "-1 if there is none such", RefusalsTest::town, x -> x.walk(0, 5, 0), -1);
    }

    private static void rowsOfNumbers() {
        refused(5, "NUMBER: r isn't 0 to 3, or kind not 0 to 2", RefusalsTest::town, x -> x.row(4, 1, 2), NUMBER);
        refused(5, "NUMBER: r isn't 0 to 3, or kind not 0 to 2", RefusalsTest::town, x -> x.row(0, 3, 2), NUMBER);
        refused(5, "NUMBER: r isn't 0 to 3, or kind not 0 to 2", RefusalsTest::town, x -> x.row(-1, 1, -1), NUMBER);
        refused(5, "NUMBER: r isn't 0 to 3, or kind not 0 to 2", RefusalsTest::town, x -> x.row(0, -1, -1), NUMBER);
        refused(5, "SIZE: n is below 0", RefusalsTest::town, x -> x.row(0, 1, -1), SIZE);
        refused(5, "SIZE: n is below 0", RefusalsTest::town, x -> x.row(3, 1, MIN), SIZE);
        refused(5, "NUMBER: n is above 50", RefusalsTest::town, x -> x.row(1, 0, 51), NUMBER);
        refused(5, "NUMBER: n is above 50", RefusalsTest::town, x -> x.row(3, 1, MAX), NUMBER);
        refused(6, "NUMBER: r isn't 0 to 3", RefusalsTest::town, x -> x.cell(4, 0, 5), NUMBER);
        refused(6, "MISSING", RefusalsTest::town, x -> x.cell(3, 0, 5), MISSING);
        refused(6, "MISSING", RefusalsTest::town, x -> x.cell(3, -1, 5), MISSING);
        refused(6, "NUMBER: it has no number i.", RefusalsTest::town, x -> x.cell(0, 3, 5), NUMBER);
        refused(6, "NUMBER: it has no number i.", RefusalsTest::town, x -> x.cell(0, -1, 5), NUMBER);
        refused(7, "NONE, 2^63 - 1", RefusalsTest::town, x -> x.told(3, 0), Long.MAX_VALUE);
        refused(8, "NUMBER: r isn't 0 to 3", RefusalsTest::town, x -> x.lose(4), NUMBER);
        refused(8, "MISSING: it is.", RefusalsTest::town, x -> x.lose(3), MISSING);
    }

    private static void lay() {
        refused(9, "NUMBER: r isn't 0 to 3", RefusalsTest::wholeTown, x -> x.lay(4, 0, 1, 0), NUMBER);
        refused(9, "NUMBER: r isn't 0 to 3", RefusalsTest::wholeTown, x -> x.lay(-1, -1, -1, -1), NUMBER);
        refused(9, "MISSING", RefusalsTest::wholeTown, x -> x.lay(3, 0, 1, 0), MISSING);
        refused(9, "MISSING", RefusalsTest::wholeTown, x -> x.lay(3, -1, -1, -1), MISSING);
        refused(9, "KIND: it is no row of ints", RefusalsTest::wholeTown, x -> x.lay(0, 0, 1, 0), KIND);
        refused(9, "KIND: it is no row of ints", RefusalsTest::wholeTown, x -> x.lay(2, -1, -1, -1), KIND);
        refused(9, "n or from is below 0", RefusalsTest::wholeTown, x -> x.lay(1, 0, -1, 0), NUMBER);
        refused(9, "n or from is below 0", RefusalsTest::wholeTown, x -> x.lay(1, -1, 2, 0), NUMBER);
        refused(9, "it has no n numbers from there on", RefusalsTest::wholeTown, x -> x.lay(1, 0, 5, 0), NUMBER);
        refused(9, "it has no n numbers from there on", RefusalsTest::wholeTown, x -> x.lay(1, 3, 2, 0), NUMBER);
        refused(9, "it has no n numbers from there on", RefusalsTest::wholeTown, x -> x.lay(1, MAX, MAX, 0), NUMBER);
        refused(9, "lane is below 0", RefusalsTest::wholeTown, x -> x.lay(1, 0, 2, -1), NUMBER);
        // The first lanes could be laid, the last not: none is.
        refused(9, "lane + n above how many LANES there are", RefusalsTest::wholeTown, x -> x.lay(1, 0, 4, 4), NUMBER);
        refused(9, "lane + n above how many LANES there are", RefusalsTest::wholeTown, x -> x.lay(1, 0, 1, MAX), NUMBER);
    }

    private static void lamps() {
        refused(12, "NUMBER: crossing is none", RefusalsTest::wholeTown, x -> x.lamp(40, 0, 0), NUMBER);
        refused(12, "kind isn't 0 to 4", RefusalsTest::wholeTown, x -> x.lamp(9, 5, 0), NUMBER);
        refused(12, "kind isn't 0 to 4", RefusalsTest::wholeTown, x -> x.lamp(0, -1, 0), NUMBER);
        refused(12, "STATE: a LAMP stands there", RefusalsTest::wholeTown, x -> x.lamp(5, 0, 0), STATE);
        refused(12, "STATE: a LAMP stands there", RefusalsTest::wholeTown, x -> x.lamp(5, 1, 99), STATE);
        refused(12, "STATE: a LAMP stands there", RefusalsTest::fullOfLamps, x -> x.lamp(0, 1, 99), STATE);
        refused(12, "NUMBER: of a TWIN: other is no LAMP", RefusalsTest::wholeTown, x -> x.lamp(9, 1, 6), NUMBER);
        refused(12, "NUMBER: of a TWIN: other is no LAMP", RefusalsTest::fullOfLamps, x -> x.lamp(20, 1, 12), NUMBER);
        refused(12, "FULL: there are 12", RefusalsTest::fullOfLamps, x -> x.lamp(20, 0, 0), FULL);
        refused(12, "FULL: there are 12", RefusalsTest::fullOfLamps, x -> x.lamp(20, 1, 11), FULL);
        refused(13, "NUMBER: there is no such LAMP", RefusalsTest::wholeTown, x -> x.dark(6, true), NUMBER);
        refused(13, "NUMBER: there is no such LAMP", RefusalsTest::wholeTown, x -> x.dark(-1, true), NUMBER);
        refused(13, "KIND: it is another one", RefusalsTest::wholeTown, x -> x.dark(0, true), KIND);
        refused(13, "KIND: it is another one", RefusalsTest::wholeTown, x -> x.dark(4, true), KIND);
        refused(14, "NUMBER is answered as -2 here: there is no such LAMP", RefusalsTest::town, x -> x.twin(6), -2);
        refused(14, "KIND: it is another kind.", RefusalsTest::town, x -> x.twin(5), KIND);
        refused(15, "NUMBER is answered as -2^31 here", RefusalsTest::town, x -> x.of(6, 0), MIN);
        refused(15, "NUMBER is answered as -2^31 here", RefusalsTest::town, x -> x.of(0, 5), MIN);
        refused(16, "-1 for another what.", RefusalsTest::town, x -> x.many(6), -1);
    }

    private static void rounds() {
        refused(17, "LARGE", RefusalsTest::largeTown, Desk::least, LARGE);
        refused(17, "NEVER: there is no such ROUND (then THE TOLD ROUND stays).", RefusalsTest::neverTown, Desk::least, NEVER);
        refused(17, "NEVER: there is no such ROUND (then THE TOLD ROUND stays).", RefusalsTest::partedTown, Desk::least, NEVER);
        refused(17, "NEVER: there is no such ROUND (then THE TOLD ROUND stays).", RefusalsTest::pair, Desk::least, NEVER);
        refused(18, "STATE: THE TOLD ROUND isn't all LAMPS that aren't OUT", RefusalsTest::town, Desk::second, STATE);
        refused(18, "STATE: THE TOLD ROUND isn't all LAMPS that aren't OUT", RefusalsTest::largeTownNotWhole, Desk::second, STATE);
        refused(18, "or these are fewer than three", RefusalsTest::pair, Desk::second, STATE);
        refused(18, "LARGE", RefusalsTest::largeTown, Desk::second, LARGE);
        refused(18, "NEVER", RefusalsTest::neverTown, Desk::second, NEVER);
        refused(18, "NEVER", RefusalsTest::partedTown, Desk::second, NEVER);
        refused(19, "NUMBER: one is no LAMP or OUT", RefusalsTest::town, x -> x.with(0, 6, true), NUMBER);
        refused(19, "NUMBER: one is no LAMP or OUT", RefusalsTest::town, x -> x.with(5, 0, true), NUMBER);
        refused(19, "NUMBER: one is no LAMP or OUT", RefusalsTest::largeTown, x -> x.with(0, 9, true), NUMBER);
        refused(19, "or they are the same", RefusalsTest::largeTown, x -> x.with(2, 2, false), NUMBER);
        refused(19, "LARGE", RefusalsTest::largeTown, x -> x.with(0, 8, true), LARGE);
        refused(19, "NEVER", RefusalsTest::wholeTown, x -> x.with(1, 3, false), NEVER);
        refused(19, "NEVER", RefusalsTest::pair, x -> x.with(0, 1, true), NEVER);
    }

    private static void toldRounds() {
        refused(20, "NUMBER: there is no such LAMP", RefusalsTest::town, x -> x.put(6), NUMBER);
        refused(20, "STATE: it is OUT", RefusalsTest::town, x -> x.put(5), STATE);
        refused(20, "or in it already", RefusalsTest::town, x -> x.put(2), STATE);
        refused(20, "or in it already", RefusalsTest::wholeTown, x -> x.put(4), STATE);
        refused(22, "-1 if there is none such", RefusalsTest::town, x -> x.at(2), -1);
        refused(23, "STATE: it isn't all LAMPS that aren't OUT", RefusalsTest::town, Desk::length, STATE);
        refused(23, "STATE: it isn't all LAMPS that aren't OUT", RefusalsTest::partedTownNotWhole, Desk::length, STATE);
        refused(23, "or these are fewer than three", RefusalsTest::pair, Desk::length, STATE);
        refused(23, "APART: some neighbours have no WAY.", RefusalsTest::partedTown, Desk::length, APART);
        refused(24, "STATE: it isn't all LAMPS that aren't OUT", RefusalsTest::town, Desk::keeps, STATE);
        refused(24, "or these are fewer than three", RefusalsTest::pair, Desk::keeps, STATE);
        refused(25, "STATE as by length()", RefusalsTest::town, x -> x.turn(0, 1), STATE);
        refused(25, "STATE as by length()", RefusalsTest::town, x -> x.turn(-1, MAX), STATE);
        refused(25, "STATE as by length()", RefusalsTest::pair, x -> x.turn(0, 1), STATE);
        refused(25, "NUMBER: i or j is none that may be.", RefusalsTest::wholeTown, x -> x.turn(-1, 3), NUMBER);
        refused(25, "NUMBER: i or j is none that may be.", RefusalsTest::wholeTown, x -> x.turn(0, 5), NUMBER);
        refused(25, "NUMBER: i or j is none that may be.", RefusalsTest::wholeTown, x -> x.turn(3, 1), NUMBER);
        refused(25, "NUMBER: i or j is none that may be.", RefusalsTest::partedTown, x -> x.turn(4, 5), NUMBER);
        refused(26, "STATE, APART as by length().", RefusalsTest::town, Desk::better, STATE);
        refused(26, "STATE, APART as by length().", RefusalsTest::partedTownNotWhole, Desk::better, STATE);
        refused(26, "STATE, APART as by length().", RefusalsTest::pair, Desk::better, STATE);
        refused(26, "STATE, APART as by length().", RefusalsTest::partedTown, Desk::better, APART);
    }

    private static void prices() {
        refused(27, "NUMBER: there is none such", RefusalsTest::town, x -> x.price(6, 1), NUMBER);
        refused(27, "v isn't -100000 to 100000", RefusalsTest::town, x -> x.price(2, 100001), NUMBER);
        refused(27, "v isn't -100000 to 100000", RefusalsTest::town, x -> x.price(2, -100001), NUMBER);
        refused(28, "NUMBER: n isn't 1 to 100", RefusalsTest::town, x -> x.climb(0), NUMBER);
        refused(28, "NUMBER: n isn't 1 to 100", RefusalsTest::town, x -> x.climb(101), NUMBER);
        refused(28, "NUMBER: n isn't 1 to 100", RefusalsTest::pair, x -> x.climb(0), NUMBER);
        refused(28, "STATE: fewer than three LAMPS aren't OUT.", RefusalsTest::pair, x -> x.climb(1), STATE);
        // No refusal, but nothing is done either.
        refused(28, "how many of these did something", RefusalsTest::partedTown, x -> x.climb(100), 0);
        refused(29, "STATE is answered as -2^62 here", RefusalsTest::pair, Desk::bound, -(1L << 62));
        refused(29, "2^62 if it is ENDLESS", RefusalsTest::partedTown, Desk::bound, 1L << 62);
        refused(30, "-1: there is none such", RefusalsTest::town, x -> x.taken(5), -1);
        refused(30, "or fewer than three LAMPS aren't OUT", RefusalsTest::pair, x -> x.taken(0), -1);
    }

    private static void proofs() {
        refused(31, "NUMBER: n is below 0", RefusalsTest::town, x -> x.prove(-1), NUMBER);
        refused(31, "NUMBER: n is below 0", RefusalsTest::pair, x -> x.prove(MIN), NUMBER);
        refused(31, "STATE: fewer than three LAMPS aren't OUT", RefusalsTest::pair, x -> x.prove(0), STATE);
        refused(31, "SPENT", RefusalsTest::town, x -> x.prove(MAX), SPENT);
        refused(31, "SPENT", RefusalsTest::fullOfLines, x -> x.prove(7), SPENT);
        refused(32, "NUMBER: op isn't 1 to 6", RefusalsTest::town, x -> x.line(0, 1, 2), NUMBER);
        refused(32, "NUMBER: op isn't 1 to 6", RefusalsTest::fullOfLines, x -> x.line(7, 1, 2), NUMBER);
        refused(32, "FULL: there are 400.", RefusalsTest::fullOfLines, x -> x.line(1, 1, 2), FULL);
        refused(33, "NUMBER: there is none such, or op isn't 1 to 6.", RefusalsTest::town, x -> x.alter(3, 1, 1, 2), NUMBER);
        refused(33, "NUMBER: there is none such, or op isn't 1 to 6.", RefusalsTest::town, x -> x.alter(-1, 1, 1, 2), NUMBER);
        refused(33, "NUMBER: there is none such, or op isn't 1 to 6.", RefusalsTest::town, x -> x.alter(0, 7, 1, 2), NUMBER);
        refused(33, "NUMBER: there is none such, or op isn't 1 to 6.", RefusalsTest::fullOfLines, x -> x.alter(400, 1, 1, 2), NUMBER);
        refused(34, "NUMBER: it has not so many", RefusalsTest::town, x -> x.cut(4), NUMBER);
        refused(34, "or n is below 0", RefusalsTest::town, x -> x.cut(-1), NUMBER);
        refused(34, "NUMBER: it has not so many", RefusalsTest::fullOfLines, x -> x.cut(401), NUMBER);
        refused(35, "NUMBER is answered as -2^31 here", RefusalsTest::town, x -> x.shown(3, 0), MIN);
        refused(35, "NUMBER is answered as -2^31 here", RefusalsTest::town, x -> x.shown(0, 3), MIN);
        refused(36, "NUMBER is answered as -2 here: n is below 0", RefusalsTest::town, x -> x.check(-1), -2);
        refused(36, "NUMBER is answered as -2 here: n is below 0", RefusalsTest::pair, x -> x.check(MIN), -2);
        refused(36, "STATE: fewer than three LAMPS aren't OUT.", RefusalsTest::pair, x -> x.check(0), STATE);
        refused(21, "how many LAMPS it had", RefusalsTest::nothing, Desk::clear, 0);
    }
}
