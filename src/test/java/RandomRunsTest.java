import java.util.Random;

/** Long runs of calls, ordinary and wrong ones mixed, held call by call against Model. */
public final class RandomRunsTest {
    private static final int RUNS = 400;
    private static final int MOST_WRONG = 5;
    /** No round of questions takes more calls than this. */
    private static final int MOST_OF_ONE = 60;

    private final Random random;
    private final int crossings;
    private final int longest;
    private final int wanted;
    private final Desk x;

    private RandomRunsTest(long run, Due due) {
        random = new Random(run);
        crossings = random.nextInt(5) == 0 ? 40 : 4 + random.nextInt(10);
        longest = random.nextInt(3) == 0 ? 1000 : 1 + random.nextInt(12);
        wanted = 3 + random.nextInt(10);
        x = due.desk();
    }

    public static void main(String[] args) {
        int runs = args.length > 0 ? Integer.parseInt(args[0]) : RUNS;
        Due due = new Due("RandomRunsTest");
        for (int run = 0; run < runs && due.wrong() < MOST_WRONG; run++) new RandomRunsTest(run, due).play();
        due.end();
    }

    private void play() {
        for (int call = 0; call < 40; call++) build();
        while (x.left() >= MOST_OF_ONE) ask();
    }

    /** A number from 0 on below n, at times one that may not be. */
    private int some(int n) {
        switch (random.nextInt(40)) {
            case 0:
                return -1;
            case 1:
                return n;
            case 2:
                return coin() ? Integer.MIN_VALUE : Integer.MAX_VALUE;
            default:
                return random.nextInt(Math.max(1, n));
        }
    }

    private boolean coin() {
        return random.nextBoolean();
    }

    private int someLamp() {
        return some(x.many(1));
    }

    private void build() {
        if (random.nextInt(3) != 0 || x.many(1) >= wanted) {
            x.lane(some(crossings), some(crossings), 1 + some(longest));
        } else {
            lamp();
        }
    }

    private void lamp() {
        int kind = random.nextInt(3) == 0 ? some(5) : random.nextInt(2) * (3 + random.nextInt(2));
        x.lamp(some(crossings), kind, someLamp());
    }

    private void ask() {
        int area = random.nextInt(20);
        if (area == 0) {
            build();
        } else if (area < 4) {
            askRows();
        } else if (area < 8) {
            askLamps();
        } else if (area < 14) {
            askRounds();
        } else {
            askProofs();
        }
    }

    private void askRows() {
        int lanes = x.many(0);
        switch (random.nextInt(9)) {
            case 0: x.open(some(lanes), random.nextInt(3) != 0); break;
            case 1: x.about(some(lanes), some(4)); break;
            case 2: x.row(some(4), some(3), some(51)); break;
            case 3: case 4: x.cell(some(4), some(10), random.nextInt(4) == 0 ? random.nextLong() : random.nextInt(longest + 2)); break;
            case 5: x.told(some(4), some(10)); break;
            case 6: x.lose(some(16)); break;
            case 7: x.lay(some(4), some(10), some(5), some(lanes)); break;
            default: askWays();
        }
    }

    private void askWays() {
        int a = some(crossings);
        int b = some(crossings);
        x.way(a, b);
        for (int i = 0; i < 4; i++) x.walk(a, b, i);
        x.walk(a, b, some(5));
    }

    private void askLamps() {
        switch (random.nextInt(6)) {
            case 0: lamp(); break;
            case 1: x.dark(someLamp(), coin()); break;
            case 2: x.twin(someLamp()); break;
            case 3: x.of(someLamp(), some(6)); break;
            default: x.many(some(6));
        }
    }

    private void askRounds() {
        switch (random.nextInt(14)) {
            case 0: x.least(); break;
            case 1: x.second(); break;
            case 2: x.with(someLamp(), someLamp(), coin()); break;
            case 3: x.put(someLamp()); break;
            case 4: if (random.nextInt(4) == 0) x.clear(); break;
            case 5: x.length(); break;
            case 6: x.keeps(); break;
            case 7: case 8: x.turn(some(12), some(12)); break;
            case 9: x.better(); break;
            default: putAll();
        }
        int told = x.many(4);
        for (int i = 0; i <= told; i++) x.at(i);
    }

    private void putAll() {
        if (coin()) x.clear();
        int lamps = x.many(1);
        int step = 1 + random.nextInt(12);
        int from = random.nextInt(12);
        // 13 is prime, so each number below it is met once.
        for (int t = 0; t < 13; t++) if ((from + t * step) % 13 < lamps) x.put((from + t * step) % 13);
        if (coin()) x.better();
        if (coin()) x.second();
    }

    private void askProofs() {
        int lines = x.many(3);
        switch (random.nextInt(13)) {
            case 0: x.price(someLamp(), random.nextInt(6) == 0 ? random.nextInt(240001) - 120000 : random.nextInt(2 * longest + 1) - longest); break;
            case 1: x.climb(random.nextInt(10) == 0 ? some(102) : 1 + random.nextInt(6)); break;
            case 2: x.bound(); break;
            case 3: x.taken(some(13)); break;
            case 4: case 5: case 6: prove(); break;
            case 7: x.line(some(7), someLamp(), someLamp()); break;
            case 8: x.alter(some(lines), some(7), someLamp(), someLamp()); break;
            case 9: x.cut(random.nextInt(4) == 0 ? some(lines) : lines - random.nextInt(3)); break;
            case 10: x.shown(some(lines), some(4)); break;
            default: x.check(goal());
        }
    }

    private int goal() {
        long bound = x.bound();
        int near = bound < 0 || bound > 1000000 ? 0 : (int) bound;
        return random.nextInt(12) == 0 ? some(1000000) : near - 1 + random.nextInt(2 * longest + 4);
    }

    private void prove() {
        int n = goal();
        x.prove(n);
        int lines = x.many(3);
        for (int i = 0; i < lines && i < 8; i++) showLine(i);
        for (int k = 0; k < 8; k++) showLine(some(lines));
        x.check(n);
    }

    private void showLine(int i) {
        for (int what = 0; what < 3; what++) x.shown(i, what);
    }
}
