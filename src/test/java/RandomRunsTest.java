import java.util.Random;

/** Long runs of calls, ordinary and wrong ones mixed, held call by call against Model. */
public final class RandomRunsTest {
    private static final int RUNS = 150;
    private static final int CALLS = 512;
    private static final int MOST_TOLD = 20;
    private static final int MOST_TOLD_OF_RUN = 3;

    private final Random random;
    private final long run;
    private final int crossings;
    private final int longest;
    private final int wanted;
    private final LampRound x = new LampRound();
    private final Model m = new Model();
    private int wrong = 0;

    private RandomRunsTest(long run) {
        this.run = run;
        random = new Random(run);
        crossings = random.nextInt(5) == 0 ? 40 : 4 + random.nextInt(10);
        longest = random.nextInt(3) == 0 ? 1000 : 1 + random.nextInt(12);
        wanted = 3 + random.nextInt(10);
    }

    public static void main(String[] args) {
        int runs = args.length > 0 ? Integer.parseInt(args[0]) : RUNS;
        int wrong = 0;
        for (int run = 0; run < runs && wrong < MOST_TOLD; run++) {
            wrong += new RandomRunsTest(run).play();
        }
        System.out.println(wrong == 0 ? "RandomRunsTest: all answers are as due" : "RandomRunsTest: " + wrong + " wrong");
        if (wrong != 0) System.exit(1);
    }

    private int play() {
        for (int call = 0; call < CALLS && wrong == 0; call++) {
            if (call < 40) {
                build();
            } else {
                ask();
            }
        }
        return wrong;
    }

    private void due(String call, long got, long want) {
        if (got != want) {
            wrong++;
            if (wrong <= MOST_TOLD_OF_RUN) System.out.println("run " + run + ": " + call + " answered " + got + ", due is " + want);
        }
    }

    /** A number from 0 on below n, at times one that may not be. */
    private int some(int n) {
        switch (random.nextInt(40)) {
            case 0:
                return -1;
            case 1:
                return n;
            case 2:
                return random.nextBoolean() ? Integer.MIN_VALUE : Integer.MAX_VALUE;
            default:
                return random.nextInt(Math.max(1, n));
        }
    }

    private boolean coin() {
        return random.nextBoolean();
    }

    private void build() {
        if (random.nextInt(3) != 0 || m.many(1) >= wanted) {
            lane();
        } else {
            lamp();
        }
    }

    private void lane() {
        int a = some(crossings), b = some(crossings), l = 1 + some(longest);
        due("lane(" + a + ", " + b + ", " + l + ")", x.lane(a, b, l), m.lane(a, b, l));
    }

    private void lamp() {
        int c = some(crossings), other = some(m.many(1));
        int kind = random.nextInt(3) == 0 ? some(5) : random.nextInt(2) * (3 + random.nextInt(2));
        due("lamp(" + c + ", " + kind + ", " + other + ")", x.lamp(c, kind, other), m.lamp(c, kind, other));
    }

    private void ask() {
        int area = random.nextInt(20);
        if (area == 0) {
            build();
        } else if (area < 4) {
            askRows();
        } else if (area < 8) {
            askLamps();
        } else if (area < 14) {
            askRounds();
        } else {
            askProofs();
        }
    }

    private void askRows() {
        int lanes = m.many(0);
        switch (random.nextInt(9)) {
            case 0: { int l = some(lanes); boolean on = random.nextInt(3) != 0; due("open(" + l + ", " + on + ")", x.open(l, on), m.open(l, on)); break; }
            case 1: { int l = some(lanes), w = some(4); due("about(" + l + ", " + w + ")", x.about(l, w), m.about(l, w)); break; }
            case 2: { int r = some(4), k = some(3), n = some(51); due("row(" + r + ", " + k + ", " + n + ")", x.row(r, k, n), m.row(r, k, n)); break; }
            case 3: case 4: {
                int r = some(4), i = some(10);
                long v = random.nextInt(4) == 0 ? random.nextLong() : random.nextInt(longest + 2);
                due("cell(" + r + ", " + i + ", " + v + ")", x.cell(r, i, v), m.cell(r, i, v)); break; }
            case 5: { int r = some(4), i = some(10); due("told(" + r + ", " + i + ")", x.told(r, i), m.told(r, i)); break; }
            case 6: { int r = some(16); due("lose(" + r + ")", x.lose(r), m.lose(r)); break; }
            case 7: { int r = some(4), f = some(10), n = some(5), l = some(lanes); due("lay(" + r + ", " + f + ", " + n + ", " + l + ")", x.lay(r, f, n, l), m.lay(r, f, n, l)); break; }
            default: askWays();
        }
    }

    private void askWays() {
        int a = some(crossings), b = some(crossings), i = some(5);
        due("way(" + a + ", " + b + ")", x.way(a, b), m.way(a, b));
        due("walk(" + a + ", " + b + ", " + i + ")", x.walk(a, b, i), m.walk(a, b, i));
    }

    private void askLamps() {
        int l = some(m.many(1)), w = some(6);
        switch (random.nextInt(6)) {
            case 0: lamp(); break;
            case 1: { boolean on = coin(); due("dark(" + l + ", " + on + ")", x.dark(l, on), m.dark(l, on)); break; }
            case 2: due("twin(" + l + ")", x.twin(l), m.twin(l)); break;
            case 3: due("of(" + l + ", " + w + ")", x.of(l, w), m.of(l, w)); break;
            case 4: due("many(" + w + ")", x.many(w), m.many(w)); break;
            default: due("many(2)", x.many(2), m.many(2));
        }
    }

    private void askRounds() {
        int l = some(m.many(1)), k = some(m.many(1)), i = some(12), j = some(12);
        switch (random.nextInt(14)) {
            case 0: due("least()", x.least(), m.least()); break;
            case 1: due("second()", x.second(), m.second()); break;
            case 2: { boolean on = coin(); due("with(" + l + ", " + k + ", " + on + ")", x.with(l, k, on), m.with(l, k, on)); break; }
            case 3: due("put(" + l + ")", x.put(l), m.put(l)); break;
            case 4: if (random.nextInt(4) == 0) due("clear()", x.clear(), m.clear()); break;
            case 5: due("length()", x.length(), m.length()); break;
            case 6: due("keeps()", x.keeps(), m.keeps()); break;
            case 7: case 8: due("turn(" + i + ", " + j + ")", x.turn(i, j), m.turn(i, j)); break;
            case 9: due("better()", x.better(), m.better()); break;
            default: putAll();
        }
        for (int p = -1; p <= 12; p++) due("at(" + p + ")", x.at(p), m.at(p));
    }

    private void putAll() {
        if (coin()) due("clear()", x.clear(), m.clear());
        for (int t = 0; t < 20; t++) {
            int l = random.nextInt(13);
            due("put(" + l + ")", x.put(l), m.put(l));
        }
        if (coin()) due("better()", x.better(), m.better());
        if (coin()) due("second()", x.second(), m.second());
    }

    private void askProofs() {
        int l = some(m.many(1)), k = some(m.many(1)), lines = m.many(3), i = some(lines), op = some(7);
        switch (random.nextInt(13)) {
            case 0: { int v = random.nextInt(6) == 0 ? random.nextInt(240001) - 120000 : random.nextInt(2 * longest + 1) - longest; due("price(" + l + ", " + v + ")", x.price(l, v), m.price(l, v)); break; }
            case 1: { int n = random.nextInt(10) == 0 ? some(102) : 1 + random.nextInt(6); due("climb(" + n + ")", x.climb(n), m.climb(n)); break; }
            case 2: due("bound()", x.bound(), m.bound()); break;
            case 3: { int p = some(13); due("taken(" + p + ")", x.taken(p), m.taken(p)); break; }
            case 4: case 5: case 6: prove(); break;
            case 7: due("line(" + op + ", " + l + ", " + k + ")", x.line(op, l, k), m.line(op, l, k)); break;
            case 8: due("alter(" + i + ", " + op + ", " + l + ", " + k + ")", x.alter(i, op, l, k), m.alter(i, op, l, k)); break;
            case 9: { int n = random.nextInt(4) == 0 ? some(lines) : lines - random.nextInt(3); due("cut(" + n + ")", x.cut(n), m.cut(n)); break; }
            case 10: { int w = some(4); due("shown(" + i + ", " + w + ")", x.shown(i, w), m.shown(i, w)); break; }
            default: check();
        }
    }

    private int goal() {
        long bound = m.bound();
        int near = bound < 0 || bound > 1000000 ? 0 : (int) bound;
        return random.nextInt(12) == 0 ? some(1000000) : near - 1 + random.nextInt(2 * longest + 4);
    }

    private void prove() {
        int n = goal();
        due("prove(" + n + ")", x.prove(n), m.prove(n));
        for (int i = 0; i < m.many(3); i++) {
            for (int w = 0; w < 3; w++) due("shown(" + i + ", " + w + ")", x.shown(i, w), m.shown(i, w));
        }
        due("check(" + n + ")", x.check(n), m.check(n));
    }

    private void check() {
        int n = goal();
        due("check(" + n + ")", x.check(n), m.check(n));
    }
}
