/**
 * A LampRound and a Model that get the same calls. Each answer in which they are unlike is a fault,
 * told with all calls that led to it; so is a 513th call, whose answer the document leaves free.
 */
final class Desk {
    static final int CALLS = 512;

    private final Due due;
    private final LampRound x = new LampRound();
    private final Model m = new Model();
    private final StringBuilder story = new StringBuilder();
    private int calls = 0;

    Desk(Due due) {
        this.due = due;
    }

    /** How many calls may still come. */
    int left() {
        return CALLS - calls;
    }

    private long both(long got, long want, String name, Object... args) {
        calls++;
        StringBuilder call = new StringBuilder(name).append('(');
        for (int i = 0; i < args.length; i++) call.append(i == 0 ? "" : ", ").append(args[i]);
        call.append(')');
        if (calls > CALLS) due.fault("call " + calls + " of one object: " + call);
        if (got != want) due.fault("behind " + story + call + " answered " + got + ", the model " + want);
        story.append(call).append(" = ").append(got).append("; ");
        return got;
    }

    private int same(int got, int want, String name, Object... args) {
        return (int) both(got, want, name, args);
    }

    int lane(int a, int b, int length) { return same(x.lane(a, b, length), m.lane(a, b, length), "lane", a, b, length); }

    int open(int lane, boolean on) { return same(x.open(lane, on), m.open(lane, on), "open", lane, on); }

    int about(int lane, int what) { return same(x.about(lane, what), m.about(lane, what), "about", lane, what); }

    int row(int r, int kind, int n) { return same(x.row(r, kind, n), m.row(r, kind, n), "row", r, kind, n); }

    int cell(int r, int i, long v) { return same(x.cell(r, i, v), m.cell(r, i, v), "cell", r, i, v); }

    long told(int r, int i) { return both(x.told(r, i), m.told(r, i), "told", r, i); }

    int lose(int r) { return same(x.lose(r), m.lose(r), "lose", r); }

    int lay(int r, int from, int n, int lane) { return same(x.lay(r, from, n, lane), m.lay(r, from, n, lane), "lay", r, from, n, lane); }

    int way(int a, int b) { return same(x.way(a, b), m.way(a, b), "way", a, b); }

    int walk(int a, int b, int i) { return same(x.walk(a, b, i), m.walk(a, b, i), "walk", a, b, i); }

    int lamp(int crossing, int kind, int other) { return same(x.lamp(crossing, kind, other), m.lamp(crossing, kind, other), "lamp", crossing, kind, other); }

    int dark(int lamp, boolean on) { return same(x.dark(lamp, on), m.dark(lamp, on), "dark", lamp, on); }

    int twin(int lamp) { return same(x.twin(lamp), m.twin(lamp), "twin", lamp); }

    int of(int lamp, int what) { return same(x.of(lamp, what), m.of(lamp, what), "of", lamp, what); }

    int many(int what) { return same(x.many(what), m.many(what), "many", what); }

    int least() { return same(x.least(), m.least(), "least"); }

    int second() { return same(x.second(), m.second(), "second"); }

    int with(int a, int b, boolean on) { return same(x.with(a, b, on), m.with(a, b, on), "with", a, b, on); }

    int put(int lamp) { return same(x.put(lamp), m.put(lamp), "put", lamp); }

    int clear() { return same(x.clear(), m.clear(), "clear"); }

    int at(int i) { return same(x.at(i), m.at(i), "at", i); }

    int length() { return same(x.length(), m.length(), "length"); }

    int keeps() { return same(x.keeps(), m.keeps(), "keeps"); }

    int turn(int i, int j) { return same(x.turn(i, j), m.turn(i, j), "turn", i, j); }

    int better() { return same(x.better(), m.better(), "better"); }

    int price(int lamp, int v) { return same(x.price(lamp, v), m.price(lamp, v), "price", lamp, v); }

    int climb(int n) { return same(x.climb(n), m.climb(n), "climb", n); }

    long bound() { return both(x.bound(), m.bound(), "bound"); }

    int taken(int i) { return same(x.taken(i), m.taken(i), "taken", i); }

    int prove(int n) { return same(x.prove(n), m.prove(n), "prove", n); }

    int line(int op, int a, int b) { return same(x.line(op, a, b), m.line(op, a, b), "line", op, a, b); }

    int alter(int i, int op, int a, int b) { return same(x.alter(i, op, a, b), m.alter(i, op, a, b), "alter", i, op, a, b); }

    int cut(int n) { return same(x.cut(n), m.cut(n), "cut", n); }

    int shown(int i, int what) { return same(x.shown(i, what), m.shown(i, what), "shown", i, what); }

    int check(int n) { return same(x.check(n), m.check(n), "check", n); }
}
