import java.util.Arrays;

/**
 * A lamplighter's desk: ways through open lanes, the shortest closed round over all lamps that are
 * lit, rounds that are bettered by turning stretches about, bounds by priced trees, and proofs that
 * no round is shorter. The words in capitals are those of the document's section 'Terms'.
 */
public final class LampRound {
    public static final int NUMBER = -1;
    public static final int FULL = -2;
    public static final int MISSING = -3;
    public static final int STATE = -4;
    public static final int KIND = -5;
    public static final int SIZE = -6;
    public static final int NEVER = -7;
    public static final int LARGE = -8;
    public static final int SPENT = -9;
    public static final int APART = -10;

    private static final int CROSSINGS = 40;
    private static final int LANES = 100;
    private static final int LONGEST_LANE = 1000;
    private static final int ROWS = 4;
    private static final int CELLS = 50;
    private static final int LAMPS = 12;
    private static final int PAIRS = LAMPS * (LAMPS - 1) / 2;
    private static final int LINES = 400;
    private static final int FEWEST = 3;
    private static final int NOT_LARGE = 8;
    private static final int DEAREST = 100000;
    private static final int STEPS = 100;
    private static final int TURNS = 100;

    private static final int SHORTS = 0;
    private static final int INTS = 1;
    private static final int LONGS = 2;

    private static final int TWIN = 1;
    private static final int CORNER = 2;
    private static final int DARK = 3;
    private static final int CHAPEL = 4;

    private static final int PART = 1;
    private static final int PRICES = 2;
    private static final int FEW = 3;
    private static final int MANY = 4;
    private static final int RING = 5;
    private static final int TWINS = 6;

    private static final int NONE = -1;
    private static final int NO_ANSWER = 1 << 31;
    private static final long NO_CELL = ~(1L << 63);
    private static final long ENDLESS = 1L << 62;

    /** Stands for a WAY that isn't there: far above any WAY, far below what overflows when added to. */
    private static final int FAR = 1000000;

    private final Rows rows = new Rows();
    private final Town town = new Town();
    private final Lamps lamps = new Lamps(town);
    private final ToldRound told = new ToldRound(lamps);
    private final Search search = new Search(lamps);
    private final Case present = new Case();
    private final Tree tree = new Tree(lamps, present);
    private final Judge judge = new Judge(lamps, present, tree);
    private final Lines proof = new Lines();
    private final Lines draft = new Lines();

    public LampRound() {
    }

    // ---- lanes and rows

    public int lane(int a, int b, int length) {
        if (!isCrossing(a) || !isCrossing(b) || a == b || !isLength(length)) {
            return NUMBER;
        }
        if (town.count >= LANES) {
            return FULL;
        }
        int number = town.build(a, b, length);
        lanesChanged();
        return number;
    }

    public int open(int lane, boolean on) {
        if (!town.isLane(lane)) {
            return NUMBER;
        }
        if (town.isOpen[lane] == on) {
            return 0;
        }
        town.isOpen[lane] = on;
        lanesChanged();
        return 1;
    }

    public int about(int lane, int what) {
        if (!town.isLane(lane)) {
            return NUMBER;
        }
        switch (what) {
            case 0:
                return town.from[lane];
            case 1:
                return town.to[lane];
            case 2:
                return town.size[lane];
            case 3:
                return town.isOpen[lane] ? 1 : 0;
            default:
                return NUMBER;
        }
    }

    public int row(int r, int kind, int n) {
        if (!rows.isNumber(r) || kind < SHORTS || kind > LONGS) {
            return NUMBER;
        }
        if (n < 0) {
            return SIZE;
        }
        if (n > CELLS) {
            return NUMBER;
        }
        rows.make(r, kind, n);
        return 1;
    }

    public int cell(int r, int i, long v) {
        if (!rows.isNumber(r)) {
            return NUMBER;
        }
        if (rows.isMissing(r)) {
            return MISSING;
        }
        if (!rows.hasCell(r, i)) {
            return NUMBER;
        }
        rows.write(r, i, v);
        return 1;
    }

    public long told(int r, int i) {
        if (!rows.isNumber(r) || !rows.hasCell(r, i)) {
            return NO_CELL;
        }
        return rows.cells[r][i];
    }

    public int lose(int r) {
        if (!rows.isNumber(r)) {
            return NUMBER;
        }
        if (rows.isMissing(r)) {
            return MISSING;
        }
        rows.drop(r);
        return 1;
    }

    public int lay(int r, int from, int n, int lane) {
        if (!rows.isNumber(r)) {
            return NUMBER;
        }
        if (rows.isMissing(r)) {
            return MISSING;
        }
        if (rows.kinds[r] != INTS) {
            return KIND;
        }
        // Differences of numbers that aren't below nought: a sum of two could wrap around.
        if (n < 0 || from < 0 || n > rows.sizes[r] - from || lane < 0 || n > town.count - lane) {
            return NUMBER;
        }
        for (int i = 0; i < n; i++) {
            town.resize(lane + i, rows.cells[r][from + i]);
        }
        lanesChanged();
        return 1;
    }

    public int way(int a, int b) {
        if (!isCrossing(a) || !isCrossing(b)) {
            return NUMBER;
        }
        int way = town.waysFrom(a)[b];
        return way == FAR ? APART : way;
    }

    public int walk(int a, int b, int i) {
        if (!isCrossing(a) || !isCrossing(b)) {
            return NONE;
        }
        return town.crossingOnWalk(a, b, i);
    }

    // ---- lamps

    public int lamp(int crossing, int kind, int other) {
        if (!isCrossing(crossing) || kind < 0 || kind > CHAPEL) {
            return NUMBER;
        }
        if (lamps.standsAt(crossing)) {
            return STATE;
        }
        if (kind == TWIN && !lamps.isLamp(other)) {
            return NUMBER;
        }
        if (lamps.count >= LAMPS) {
            return FULL;
        }
        int number = lamps.raise(crossing, kind, other);
        lampsChanged();
        return number;
    }

    public int dark(int lamp, boolean on) {
        if (!lamps.isLamp(lamp)) {
            return NUMBER;
        }
        if (lamps.kinds[lamp] != DARK && lamps.kinds[lamp] != CHAPEL) {
            return KIND;
        }
        if (lamps.isLive(lamp) != on) {
            return 0;
        }
        lamps.flip(lamp);
        lampsChanged();
        return 1;
    }

    public int twin(int lamp) {
        if (!lamps.isLamp(lamp)) {
            return -2;
        }
        if (lamps.kinds[lamp] != TWIN && lamps.kinds[lamp] != CORNER) {
            return KIND;
        }
        lamps.survey();
        return lamps.twins[lamp];
    }

    public int of(int lamp, int what) {
        if (!lamps.isLamp(lamp)) {
            return NO_ANSWER;
        }
        switch (what) {
            case 0:
                return lamps.crossings[lamp];
            case 1:
                return lamps.kinds[lamp];
            case 2:
                return lamps.worthOf(lamp);
            case 3:
                return lamps.isLive(lamp) ? 0 : 1;
            case 4:
                return lamps.prices[lamp];
            default:
                return NO_ANSWER;
        }
    }

    public int many(int what) {
        switch (what) {
            case 0:
                return town.count;
            case 1:
                return lamps.count;
            case 2:
                return lamps.liveCount();
            case 3:
                return proof.count;
            case 4:
                return told.count;
            case 5:
                return lamps.worthOfLive();
            default:
                return NONE;
        }
    }

    // ---- rounds

    public int least() {
        if (isLarge()) {
            return LARGE;
        }
        search.begin();
        if (!search.run()) {
            return NEVER;
        }
        told.copyFrom(search.best, search.size);
        return search.bestLength;
    }

    public int second() {
        if (!told.isWhole()) {
            return STATE;
        }
        if (isLarge()) {
            return LARGE;
        }
        search.begin();
        told.writeOut(search.shunned);
        search.shuns = true;
        return search.run() ? search.bestLength : NEVER;
    }

    public int with(int a, int b, boolean on) {
        if (!lamps.isLive(a) || !lamps.isLive(b) || a == b) {
            return NUMBER;
        }
        if (isLarge()) {
            return LARGE;
        }
        search.begin();
        search.tie(on ? search.musts : search.bans, a, b);
        return search.run() ? search.bestLength : NEVER;
    }

    public int put(int lamp) {
        if (!lamps.isLamp(lamp)) {
            return NUMBER;
        }
        if (!lamps.isLive(lamp) || told.holds(lamp)) {
            return STATE;
        }
        return told.append(lamp);
    }

    public int clear() {
        return told.empty();
    }

    public int at(int i) {
        return i >= 0 && i < told.count ? told.order[i] : NONE;
    }

    public int length() {
        if (!told.isWhole()) {
            return STATE;
        }
        int sum = told.measure();
        return sum >= FAR ? APART : sum;
    }

    public int keeps() {
        if (!told.isWhole()) {
            return STATE;
        }
        return told.keepsTwins() ? 1 : 0;
    }

    public int turn(int i, int j) {
        if (!told.isWhole()) {
            return STATE;
        }
        if (i < 0 || j <= i || j >= told.count) {
            return NUMBER;
        }
        told.reverse(i + 1, j);
        return 1;
    }

    public int better() {
        if (!told.isWhole()) {
            return STATE;
        }
        if (told.measure() >= FAR) {
            return APART;
        }
        int done = 0;
        while (done < TURNS && told.turnFirstShorter()) {
            done++;
        }
        return done;
    }

    // ---- prices and proofs

    public int price(int lamp, int v) {
        if (!lamps.isLamp(lamp) || v < -DEAREST || v > DEAREST) {
            return NUMBER;
        }
        lamps.prices[lamp] = v;
        return 1;
    }

    public int climb(int n) {
        if (n < 1 || n > STEPS) {
            return NUMBER;
        }
        if (isTooSmall()) {
            return STATE;
        }
        growEmptyCase();
        int done = 0;
        while (done < n && tree.sumOfCase() < ENDLESS) {
            tree.raisePrices();
            tree.rankAnew();
            tree.grow();
            done++;
        }
        return done;
    }

    public long bound() {
        if (isTooSmall()) {
            return -ENDLESS;
        }
        growEmptyCase();
        return tree.sumOfCase();
    }

    public int taken(int i) {
        if (isTooSmall()) {
            return NONE;
        }
        growEmptyCase();
        return i >= 0 && i < tree.takenCount ? tree.takenPairs[i] : NONE;
    }

    public int prove(int n) {
        if (n < 0) {
            return NUMBER;
        }
        if (isTooSmall()) {
            return STATE;
        }
        beginEmptyCase();
        if (!judge.write(draft, n)) {
            return SPENT;
        }
        proof.copyFrom(draft);
        return proof.count;
    }

    public int line(int op, int a, int b) {
        if (!isOp(op)) {
            return NUMBER;
        }
        if (proof.count >= LINES) {
            return FULL;
        }
        proof.append(op, a, b);
        return proof.count;
    }

    public int alter(int i, int op, int a, int b) {
        if (!proof.hasLine(i) || !isOp(op)) {
            return NUMBER;
        }
        proof.write(i, op, a, b);
        return 1;
    }

    public int cut(int n) {
        if (n < 0 || n > proof.count) {
            return NUMBER;
        }
        proof.count = n;
        return n;
    }

    public int shown(int i, int what) {
        if (!proof.hasLine(i)) {
            return NO_ANSWER;
        }
        switch (what) {
            case 0:
                return proof.ops[i];
            case 1:
                return proof.as[i];
            case 2:
                return proof.bs[i];
            default:
                return NO_ANSWER;
        }
    }

    public int check(int n) {
        if (n < 0) {
            return -2;
        }
        if (isTooSmall()) {
            return STATE;
        }
        beginEmptyCase();
        return judge.wrongLine(proof, n);
    }

    private static boolean isCrossing(int a) {
        return a >= 0 && a < CROSSINGS;
    }

    private static boolean isLength(long v) {
        return v >= 1 && v <= LONGEST_LANE;
    }

    private static boolean isOp(int op) {
        return op >= PART && op <= TWINS;
    }

    private static boolean isIn(int set, int lamp) {
        return (set >> lamp & 1) == 1;
    }

    private static int pairOf(int lesser, int greater) {
        return 16 * lesser + greater;
    }

    private static int lesserOf(int pair) {
        return pair >> 4 & 15;
    }

    private static int greaterOf(int pair) {
        return pair & 15;
    }

    private boolean isLarge() {
        return lamps.liveCount() > NOT_LARGE;
    }

    private boolean isTooSmall() {
        return lamps.liveCount() < FEWEST;
    }

    private void lanesChanged() {
        town.forgetWays();
        lampsChanged();
    }

    private void lampsChanged() {
        lamps.surveyed = false;
        told.empty();
    }

    private void beginEmptyCase() {
        lamps.survey();
        present.startEmpty();
        tree.rank();
    }

    private void growEmptyCase() {
        beginEmptyCase();
        tree.grow();
    }

    /** The ROWS; every kind is held as longs, since a number once cast fits a long as it is. */
    private static final class Rows {
        private final long[][] cells = new long[ROWS][CELLS];
        private final int[] kinds = new int[ROWS];
        private final int[] sizes = new int[ROWS];

        Rows() {
            Arrays.fill(sizes, NONE);
        }

        boolean isNumber(int r) {
            return r >= 0 && r < ROWS;
        }

        boolean isMissing(int r) {
            return sizes[r] == NONE;
        }

        boolean hasCell(int r, int i) {
            return i >= 0 && i < sizes[r];
        }

        void make(int r, int kind, int n) {
            kinds[r] = kind;
            sizes[r] = n;
            Arrays.fill(cells[r], 1L);
        }

        void write(int r, int i, long v) {
            switch (kinds[r]) {
                case SHORTS:
                    cells[r][i] = (short) v;
                    break;
                case INTS:
                    cells[r][i] = (int) v;
                    break;
                default:
                    cells[r][i] = v;
            }
        }

        void drop(int r) {
            sizes[r] = NONE;
        }
    }

    /** The LANES, and the WAYS from each CROSSING, which are reckoned when they are first asked for. */
    private static final class Town {
        private final int[] from = new int[LANES];
        private final int[] to = new int[LANES];
        private final int[] size = new int[LANES];
        private final boolean[] isOpen = new boolean[LANES];
        private final int[][] ways = new int[CROSSINGS][CROSSINGS];
        private long reckoned = 0L;
        private int count = 0;

        boolean isLane(int lane) {
            return lane >= 0 && lane < count;
        }

        int build(int a, int b, int length) {
            int number = count;
            from[number] = a;
            to[number] = b;
            size[number] = length;
            isOpen[number] = true;
            count++;
            return number;
        }

        void resize(int lane, long v) {
            if (isLength(v)) {
                size[lane] = (int) v;
            } else {
                isOpen[lane] = false;
            }
        }

        void forgetWays() {
            reckoned = 0L;
        }

        int[] waysFrom(int a) {
            if ((reckoned >> a & 1L) == 0L) {
                reckon(ways[a], a);
                reckoned |= 1L << a;
            }
            return ways[a];
        }

        private void reckon(int[] row, int start) {
            Arrays.fill(row, FAR);
            row[start] = 0;
            boolean changed = true;
            // A shortest WALK has fewer LANES than there are CROSSINGS, so as many passes are enough.
            for (int pass = 0; changed && pass < CROSSINGS; pass++) {
                changed = false;
                for (int lane = 0; lane < count; lane++) {
                    if (isOpen[lane] && shorten(row, lane)) {
                        changed = true;
                    }
                }
            }
        }

        private boolean shorten(int[] row, int lane) {
            int a = from[lane];
            int b = to[lane];
            if (row[a] + size[lane] < row[b]) {
                row[b] = row[a] + size[lane];
                return true;
            }
            if (row[b] + size[lane] < row[a]) {
                row[a] = row[b] + size[lane];
                return true;
            }
            return false;
        }

        int crossingOnWalk(int a, int b, int i) {
            int[] left = waysFrom(b);
            if (i < 0 || i >= CROSSINGS || left[a] == FAR) {
                return NONE;
            }
            int here = a;
            for (int step = 0; step < i; step++) {
                if (here == b) {
                    return NONE;
                }
                here = nextOnWalk(here, left);
            }
            return here;
        }

        private int nextOnWalk(int here, int[] left) {
            int next = here;
            for (int lane = 0; lane < count; lane++) {
                int other = farEnd(lane, here);
                if (other != NONE && isOpen[lane] && size[lane] + left[other] == left[here]
                        && (next == here || other < next)) {
                    next = other;
                }
            }
            return next;
        }

        private int farEnd(int lane, int near) {
            if (from[lane] == near) {
                return to[lane];
            }
            return to[lane] == near ? from[lane] : NONE;
        }
    }

    /** The LAMPS; a set of LAMPS is an int whose bit l tells of LAMP l. */
    private static final class Lamps {
        private final Town town;
        private final int[] crossings = new int[LAMPS];
        private final int[] kinds = new int[LAMPS];
        private final int[] others = new int[LAMPS];
        private final int[] prices = new int[LAMPS];
        private final int[] twins = new int[LAMPS];
        private final int[] needs = new int[LAMPS];
        private final int[][] gaps = new int[LAMPS][LAMPS];
        private int live = 0;
        private int count = 0;
        private boolean surveyed = false;

        Lamps(Town town) {
            this.town = town;
        }

        boolean isLamp(int lamp) {
            return lamp >= 0 && lamp < count;
        }

        boolean isLive(int lamp) {
            return isLamp(lamp) && isIn(live, lamp);
        }

        int liveCount() {
            return Integer.bitCount(live);
        }

        int firstLive() {
            for (int lamp = 0; lamp < count; lamp++) {
                if (isIn(live, lamp)) {
                    return lamp;
                }
            }
            return NONE;
        }

        int worthOf(int lamp) {
            return kinds[lamp] == CHAPEL ? 2 : 1;
        }

        int worthOfLive() {
            int sum = 0;
            for (int lamp = 0; lamp < count; lamp++) {
                if (isIn(live, lamp)) {
                    sum += worthOf(lamp);
                }
            }
            return sum;
        }

        boolean standsAt(int crossing) {
            for (int lamp = 0; lamp < count; lamp++) {
                if (crossings[lamp] == crossing) {
                    return true;
                }
            }
            return false;
        }

        int raise(int crossing, int kind, int other) {
            int number = count;
            crossings[number] = crossing;
            kinds[number] = kind;
            others[number] = other;
            live |= 1 << number;
            count++;
            return number;
        }

        void flip(int lamp) {
            live ^= 1 << lamp;
        }

        /** Makes gaps, twins and needs right again, if LANES or LAMPS changed since they were. */
        void survey() {
            if (surveyed) {
                return;
            }
            for (int lamp = 0; lamp < count; lamp++) {
                int[] ways = town.waysFrom(crossings[lamp]);
                for (int other = 0; other < count; other++) {
                    gaps[lamp][other] = ways[crossings[other]];
                }
            }
            Arrays.fill(needs, 0);
            for (int lamp = 0; lamp < count; lamp++) {
                twins[lamp] = twinOf(lamp);
                tieTwins(lamp, twins[lamp]);
            }
            surveyed = true;
        }

        private int twinOf(int lamp) {
            if (kinds[lamp] == TWIN) {
                return others[lamp];
            }
            return kinds[lamp] == CORNER ? nearest(lamp) : NONE;
        }

        private int nearest(int lamp) {
            int found = NONE;
            int least = FAR;
            for (int other = 0; other < count; other++) {
                if (other != lamp && gaps[lamp][other] < least) {
                    found = other;
                    least = gaps[lamp][other];
                }
            }
            return found;
        }

        private void tieTwins(int lamp, int twin) {
            if (isLive(lamp) && isLive(twin)) {
                needs[lamp] |= 1 << twin;
                needs[twin] |= 1 << lamp;
            }
        }
    }

    /** THE TOLD ROUND. It holds only LAMPS that aren't OUT, each once: so it is all if it has as many. */
    private static final class ToldRound {
        private final Lamps lamps;
        private final int[] order = new int[LAMPS];
        private int count = 0;

        ToldRound(Lamps lamps) {
            this.lamps = lamps;
        }

        boolean isWhole() {
            return count >= FEWEST && count == lamps.liveCount();
        }

        boolean holds(int lamp) {
            for (int i = 0; i < count; i++) {
                if (order[i] == lamp) {
                    return true;
                }
            }
            return false;
        }

        int append(int lamp) {
            if (count < LAMPS) {
                order[count] = lamp;
                count++;
            }
            return count;
        }

        int empty() {
            int had = count;
            count = 0;
            return had;
        }

        void copyFrom(int[] row, int n) {
            System.arraycopy(row, 0, order, 0, n);
            count = n;
        }

        /** FAR or more if some neighbours have no WAY: a ROUND's WAYS together stay below it. */
        int measure() {
            lamps.survey();
            int sum = 0;
            for (int i = 0; i < count; i++) {
                sum += lamps.gaps[order[i]][order[after(i)]];
            }
            return sum;
        }

        boolean keepsTwins() {
            lamps.survey();
            for (int i = 0; i < count; i++) {
                int beside = 1 << order[before(i)] | 1 << order[after(i)];
                if ((lamps.needs[order[i]] & ~beside) != 0) {
                    return false;
                }
            }
            return true;
        }

        void reverse(int from, int to) {
            int i = from;
            int j = to;
            while (i < j) {
                int kept = order[i];
                order[i] = order[j];
                order[j] = kept;
                i++;
                j--;
            }
        }

        boolean turnFirstShorter() {
            boolean kept = keepsTwins();
            for (int i = 0; i < count; i++) {
                for (int j = i + 1; j < count; j++) {
                    if (isShorterTurned(i, j)) {
                        reverse(i + 1, j);
                        if (!kept || keepsTwins()) {
                            return true;
                        }
                        reverse(i + 1, j);
                    }
                }
            }
            return false;
        }

        /** Only the two WAYS at the ends of the stretch change, as a WAY is as long both ways. */
        private boolean isShorterTurned(int i, int j) {
            int a = order[i];
            int b = order[i + 1];
            int c = order[j];
            int d = order[after(j)];
            return lamps.gaps[a][c] + lamps.gaps[b][d] < lamps.gaps[a][b] + lamps.gaps[c][d];
        }

        /** Writes it as a ROUND is written: the least LAMP first, then the lesser of its neighbours. */
        void writeOut(int[] into) {
            int start = 0;
            for (int i = 1; i < count; i++) {
                if (order[i] < order[start]) {
                    start = i;
                }
            }
            boolean forward = order[after(start)] < order[before(start)];
            int place = start;
            for (int i = 0; i < count && i < into.length; i++) {
                into[i] = order[place];
                place = forward ? after(place) : before(place);
            }
        }

        private int after(int i) {
            return i + 1 < count ? i + 1 : 0;
        }

        private int before(int i) {
            return i > 0 ? i - 1 : count - 1;
        }
    }

    /** Looks for the first of the shortest ROUNDS that keep what must be neighbours and what mustn't. */
    private static final class Search {
        private static final int NOTHING = ~(1 << 31);

        private final Lamps lamps;
        private final int[] musts = new int[LAMPS];
        private final int[] bans = new int[LAMPS];
        private final int[] live = new int[NOT_LARGE];
        private final int[] order = new int[NOT_LARGE];
        private final int[] best = new int[NOT_LARGE];
        private final int[] shunned = new int[NOT_LARGE];
        private boolean shuns = false;
        private int size = 0;
        private int bestLength = NOTHING;

        Search(Lamps lamps) {
            this.lamps = lamps;
        }

        /** Asks for TWINS side by side and nothing more. */
        void begin() {
            lamps.survey();
            System.arraycopy(lamps.needs, 0, musts, 0, LAMPS);
            Arrays.fill(bans, 0);
            shuns = false;
            bestLength = NOTHING;
            size = 0;
            for (int lamp = 0; lamp < lamps.count && size < NOT_LARGE; lamp++) {
                if (lamps.isLive(lamp)) {
                    live[size] = lamp;
                    size++;
                }
            }
        }

        void tie(int[] sets, int a, int b) {
            sets[a] |= 1 << b;
            sets[b] |= 1 << a;
        }

        /** Whether there is such a ROUND; best and bestLength tell which. */
        boolean run() {
            if (size < FEWEST || !isHungTogether()) {
                return false;
            }
            order[0] = live[0];
            extend(1, 1 << live[0], 0);
            return bestLength != NOTHING;
        }

        private boolean isHungTogether() {
            for (int i = 1; i < size; i++) {
                if (lamps.gaps[live[0]][live[i]] == FAR) {
                    return false;
                }
            }
            return true;
        }

        /** Tries LAMPS by their numbers, so that of ROUNDS of one length the first is met first. */
        private void extend(int placed, int used, int sum) {
            if (placed >= size) {
                finish(sum);
                return;
            }
            int last = order[placed - 1];
            for (int i = 1; i < size; i++) {
                int lamp = live[i];
                if (!isIn(used, lamp) && mayFollow(placed, last, lamp)) {
                    int longer = sum + lamps.gaps[last][lamp];
                    // No way back is shorter than the WAY, whatever LAMPS are still to come on it.
                    if (longer + lamps.gaps[lamp][order[0]] < bestLength) {
                        order[placed] = lamp;
                        extend(placed + 1, used | 1 << lamp, longer);
                    }
                }
            }
        }

        private boolean mayFollow(int placed, int last, int lamp) {
            if (isIn(bans[last], lamp)) {
                return false;
            }
            // The first LAMP's other neighbour is the last one, which isn't known yet.
            return placed < 2 || isContent(last, order[placed - 2], lamp);
        }

        private boolean isContent(int lamp, int before, int after) {
            return (musts[lamp] & ~(1 << before | 1 << after)) == 0;
        }

        private void finish(int sum) {
            int first = order[0];
            int last = order[size - 1];
            int whole = sum + lamps.gaps[last][first];
            if (whole >= bestLength || last < order[1] || isIn(bans[last], first)
                    || !isContent(last, order[size - 2], first) || !isContent(first, last, order[1])
                    || shuns && isShunned()) {
                return;
            }
            bestLength = whole;
            System.arraycopy(order, 0, best, 0, size);
        }

        private boolean isShunned() {
            for (int i = 0; i < size; i++) {
                if (order[i] != shunned[i]) {
                    return false;
                }
            }
            return true;
        }
    }

    /**
     * The CASE that a PROOF has come to, as sets of LAMPS, with the pairs that were PARTED or JOINED
     * on the way to it. A pair comes to the way at most once, so the way has room for all.
     */
    private static final class Case {
        private final int[] joined = new int[LAMPS];
        private final int[] parted = new int[LAMPS];
        private final int[] split = new int[PAIRS];
        private final boolean[] isSecond = new boolean[PAIRS];
        private int depth = 0;
        private boolean isOver = false;

        void startEmpty() {
            Arrays.fill(joined, 0);
            Arrays.fill(parted, 0);
            depth = 0;
            isOver = false;
        }

        boolean isFree(int a, int b) {
            return !isIn(joined[a] | parted[a], b);
        }

        void splitBy(int a, int b) {
            if (depth >= PAIRS) {
                return;
            }
            split[depth] = pairOf(a, b);
            isSecond[depth] = false;
            toggle(joined, split[depth]);
            depth++;
        }

        /** This CASE is proved: the next one is the PARTED side of the last split that has one to come. */
        void goOn() {
            while (depth > 0 && isSecond[depth - 1]) {
                depth--;
                toggle(parted, split[depth]);
            }
            if (depth == 0) {
                isOver = true;
                return;
            }
            isSecond[depth - 1] = true;
            toggle(joined, split[depth - 1]);
            toggle(parted, split[depth - 1]);
        }

        private void toggle(int[] sets, int pair) {
            int a = lesserOf(pair);
            int b = greaterOf(pair);
            sets[a] ^= 1 << b;
            sets[b] ^= 1 << a;
        }

        int ringOf(int lamp) {
            int ring = 1 << lamp;
            int before = 0;
            // Each pass finds a LAMP more or is the last one.
            for (int pass = 0; pass < LAMPS && ring != before; pass++) {
                before = ring;
                for (int other = 0; other < LAMPS; other++) {
                    if (isIn(before, other)) {
                        ring |= joined[other];
                    }
                }
            }
            return ring;
        }
    }

    /**
     * THE TREE of the present CASE. A ranked pair is its PRICED, then eight bits for the pair, so
     * that the order of these longs is the document's order of pairs.
     */
    private static final class Tree {
        private static final long UNPRICED = 1L << 40;

        private final Lamps lamps;
        private final Case present;
        private final long[] ranked = new long[PAIRS];
        private final int[] takenPairs = new int[LAMPS];
        private final int[] hung = new int[LAMPS];
        private int pairs = 0;
        private int takenCount = 0;
        private int takenOfFirst = 0;
        private long sum = 0L;

        Tree(Lamps lamps, Case present) {
            this.lamps = lamps;
            this.present = present;
        }

        /** Ranks all pairs of LAMPS that aren't OUT, those without a WAY last. */
        void rank() {
            pairs = 0;
            for (int a = 0; a < lamps.count; a++) {
                for (int b = a + 1; b < lamps.count; b++) {
                    if (lamps.isLive(a) && lamps.isLive(b)) {
                        ranked[pairs] = keyOf(a, b);
                        pairs++;
                    }
                }
            }
            sort();
        }

        /** As rank(), for other PRICES: the old order is nearly right, so there is little to sort. */
        void rankAnew() {
            for (int k = 0; k < pairs; k++) {
                ranked[k] = keyOf(lesserOf(pairAt(k)), greaterOf(pairAt(k)));
            }
            sort();
        }

        private long keyOf(int a, int b) {
            long priced = UNPRICED;
            if (lamps.gaps[a][b] != FAR) {
                priced = (long) lamps.gaps[a][b] + lamps.prices[a] + lamps.prices[b];
            }
            return priced * 256L + pairOf(a, b);
        }

        private void sort() {
            for (int k = 1; k < pairs; k++) {
                long key = ranked[k];
                int place = k;
                while (place > 0 && ranked[place - 1] > key) {
                    ranked[place] = ranked[place - 1];
                    place--;
                }
                ranked[place] = key;
            }
        }

        private int pairAt(int k) {
            return (int) (ranked[k] & 255L);
        }

        private long pricedAt(int k) {
            return ranked[k] >> 8;
        }

        int firstFreePair() {
            for (int k = 0; k < pairs; k++) {
                int pair = pairAt(k);
                if (present.isFree(lesserOf(pair), greaterOf(pair))) {
                    return pair;
                }
            }
            return NONE;
        }

        void grow() {
            takenCount = 0;
            takenOfFirst = 0;
            sum = 0L;
            for (int lamp = 0; lamp < LAMPS; lamp++) {
                hung[lamp] = 1 << lamp;
            }
            int first = lamps.firstLive();
            takeOthers(first, true);
            takeOthers(first, false);
            takeOfFirst(first, true);
            takeOfFirst(first, false);
        }

        private void takeOthers(int first, boolean ofJoined) {
            // All LAMPS but THE FIRST hang together by one pair fewer than they are.
            int whole = lamps.liveCount() - 2;
            for (int k = 0; k < pairs && takenCount < whole; k++) {
                int a = lesserOf(pairAt(k));
                int b = greaterOf(pairAt(k));
                if (a != first && !isIn(hung[a], b) && mayTake(k, ofJoined)) {
                    take(k);
                }
            }
        }

        /** THE FIRST is the least LAMP, so in each of its pairs it is the lesser one. */
        private void takeOfFirst(int first, boolean ofJoined) {
            for (int k = 0; k < pairs && takenOfFirst < 2; k++) {
                if (lesserOf(pairAt(k)) == first && mayTake(k, ofJoined)) {
                    take(k);
                    takenOfFirst++;
                }
            }
        }

        private boolean mayTake(int k, boolean ofJoined) {
            int a = lesserOf(pairAt(k));
            int b = greaterOf(pairAt(k));
            return isIn(present.joined[a], b) == ofJoined && !isIn(present.parted[a], b)
                    && pricedAt(k) != UNPRICED;
        }

        private void take(int k) {
            int pair = pairAt(k);
            if (takenCount < LAMPS) {
                takenPairs[takenCount] = pair;
                takenCount++;
            }
            sum += pricedAt(k);
            int together = hung[lesserOf(pair)] | hung[greaterOf(pair)];
            for (int lamp = 0; lamp < LAMPS; lamp++) {
                if (isIn(together, lamp)) {
                    hung[lamp] = together;
                }
            }
        }

        /** THE BOUND, when THE TREE is grown; all that was taken counts for what hangs together. */
        long sumOfCase() {
            int first = lamps.firstLive();
            if (first == NONE || takenOfFirst < 2 || hung[first] != lamps.live) {
                return ENDLESS;
            }
            long bound = sum;
            for (int lamp = 0; lamp < lamps.count; lamp++) {
                if (lamps.isLive(lamp)) {
                    bound -= 2L * lamps.prices[lamp];
                }
            }
            return bound;
        }

        void raisePrices() {
            for (int lamp = 0; lamp < lamps.count; lamp++) {
                if (lamps.isLive(lamp)) {
                    lamps.prices[lamp] -= 2;
                }
            }
            for (int i = 0; i < takenCount; i++) {
                lamps.prices[lesserOf(takenPairs[i])]++;
                lamps.prices[greaterOf(takenPairs[i])]++;
            }
        }
    }

    /** LINES of a PROOF. */
    private static final class Lines {
        private final int[] ops = new int[LINES];
        private final int[] as = new int[LINES];
        private final int[] bs = new int[LINES];
        private int count = 0;

        boolean hasLine(int i) {
            return i >= 0 && i < count;
        }

        void write(int i, int op, int a, int b) {
            ops[i] = op;
            as[i] = a;
            bs[i] = b;
        }

        void append(int op, int a, int b) {
            if (count < LINES) {
                write(count, op, a, b);
                count++;
            }
        }

        void copyFrom(Lines other) {
            System.arraycopy(other.ops, 0, ops, 0, other.count);
            System.arraycopy(other.as, 0, as, 0, other.count);
            System.arraycopy(other.bs, 0, bs, 0, other.count);
            count = other.count;
        }
    }

    /** Tells which LINES can stand at the present CASE; writes PROOFS and checks them. */
    private static final class Judge {
        private final Lamps lamps;
        private final Case present;
        private final Tree tree;

        Judge(Lamps lamps, Case present, Tree tree) {
            this.lamps = lamps;
            this.present = present;
            this.tree = tree;
        }

        int wrongLine(Lines lines, int n) {
            for (int i = 0; i < lines.count; i++) {
                if (present.isOver || !canStand(lines.ops[i], lines.as[i], lines.bs[i], n)) {
                    return i;
                }
                follow(lines, i);
            }
            return present.isOver ? NONE : lines.count;
        }

        /** Whether a PROOF was written; if not, it is SPENT. */
        boolean write(Lines lines, int n) {
            lines.count = 0;
            for (int i = 0; i < LINES && !present.isOver; i++) {
                if (!writeNext(lines, n)) {
                    return false;
                }
                follow(lines, i);
            }
            return present.isOver;
        }

        private void follow(Lines lines, int i) {
            if (lines.ops[i] == PART) {
                present.splitBy(lines.as[i], lines.bs[i]);
            } else {
                present.goOn();
            }
        }

        private boolean canStand(int op, int a, int b, int n) {
            switch (op) {
                case PART:
                    return a < b && lamps.isLive(a) && lamps.isLive(b) && present.isFree(a, b);
                case PRICES:
                    return pricesStand(n);
                case TWINS:
                    return lamps.isLive(a) && lamps.isLive(b) && isIn(partedTwins(a), b);
                default:
                    return lamps.isLive(a) && standsAlone(op, a);
            }
        }

        private boolean pricesStand(int n) {
            tree.grow();
            return tree.sumOfCase() >= n;
        }

        private int partedTwins(int a) {
            return lamps.needs[a] & present.parted[a];
        }

        /** For the ops that name one LAMP. */
        private boolean standsAlone(int op, int a) {
            switch (op) {
                case FEW:
                    return lamps.liveCount() - 1 - Integer.bitCount(present.parted[a]) < 2;
                case MANY:
                    return Integer.bitCount(present.joined[a]) > 2;
                case RING:
                    return isRing(present.ringOf(a));
                default:
                    return false;
            }
        }

        private boolean isRing(int ring) {
            for (int lamp = 0; lamp < LAMPS; lamp++) {
                if (isIn(ring, lamp) && Integer.bitCount(present.joined[lamp]) != 2) {
                    return false;
                }
            }
            return ring != lamps.live;
        }

        private boolean writeNext(Lines lines, int n) {
            if (writeTwins(lines) || writeAlone(lines, FEW) || writeAlone(lines, MANY)
                    || writeAlone(lines, RING)) {
                return true;
            }
            if (pricesStand(n)) {
                lines.append(PRICES, 0, 0);
                return true;
            }
            int pair = tree.firstFreePair();
            if (pair == NONE) {
                return false;
            }
            lines.append(PART, lesserOf(pair), greaterOf(pair));
            return true;
        }

        private boolean writeTwins(Lines lines) {
            for (int a = 0; a < lamps.count; a++) {
                int found = partedTwins(a);
                for (int b = 0; found != 0 && b < lamps.count; b++) {
                    if (isIn(found, b)) {
                        lines.append(TWINS, a, b);
                        return true;
                    }
                }
            }
            return false;
        }

        private boolean writeAlone(Lines lines, int op) {
            for (int a = 0; a < lamps.count; a++) {
                if (lamps.isLive(a) && standsAlone(op, a)) {
                    lines.append(op, a, 0);
                    return true;
                }
            }
            return false;
        }
    }
}
