import java.util.ArrayList;
import java.util.Arrays;
import java.util.Comparator;
import java.util.LinkedHashSet;
import java.util.List;
import java.util.Set;
import java.util.TreeSet;

/**
 * The document told once more, as slowly and plainly as may be: nothing is kept between calls that
 * could be reckoned anew. RandomRunsTest holds LampRound against it.
 */
final class Model {
    private record Lane(int a, int b, int length, boolean open) { }

    private record Lamp(int crossing, int kind, int other, boolean out, int price) { }

    private record Pair(int a, int b) { }

    private record Line(int op, int a, int b) { }

    private final List<Lane> lanes = new ArrayList<>();
    private final List<Lamp> lamps = new ArrayList<>();
    private final Object[] rows = new Object[4];
    private List<Integer> told = new ArrayList<>();
    private List<Line> proof = new ArrayList<>();

    int lane(int a, int b, int length) {
        if (a < 0 || a > 39 || b < 0 || b > 39 || a == b || length < 1 || length > 1000) return -1;
        if (lanes.size() == 100) return -2;
        lanes.add(new Lane(a, b, length, true));
        told.clear();
        return lanes.size() - 1;
    }

    int open(int lane, boolean on) {
        if (lane < 0 || lane >= lanes.size()) return -1;
        Lane l = lanes.get(lane);
        if (l.open == on) return 0;
        lanes.set(lane, new Lane(l.a, l.b, l.length, on));
        told.clear();
        return 1;
    }

    int about(int lane, int what) {
        if (lane < 0 || lane >= lanes.size() || what < 0 || what > 3) return -1;
        Lane l = lanes.get(lane);
        return new int[] {l.a, l.b, l.length, l.open ? 1 : 0}[what];
    }

    int row(int r, int kind, int n) {
        if (r < 0 || r > 3 || kind < 0 || kind > 2) return -1;
        if (n < 0) return -6;
        if (n > 50) return -1;
        if (kind == 0) { short[] s = new short[n]; Arrays.fill(s, (short) 1); rows[r] = s; }
        if (kind == 1) { int[] s = new int[n]; Arrays.fill(s, 1); rows[r] = s; }
        if (kind == 2) { long[] s = new long[n]; Arrays.fill(s, 1); rows[r] = s; }
        return 1;
    }

    private int sizeOf(Object row) {
        return row instanceof short[] s ? s.length : row instanceof int[] s ? s.length : ((long[]) row).length;
    }

    int cell(int r, int i, long v) {
        if (r < 0 || r > 3) return -1;
        if (rows[r] == null) return -3;
        if (i < 0 || i >= sizeOf(rows[r])) return -1;
        if (rows[r] instanceof short[] s) s[i] = (short) v;
        if (rows[r] instanceof int[] s) s[i] = (int) v;
        if (rows[r] instanceof long[] s) s[i] = v;
        return 1;
    }

    long told(int r, int i) {
        if (r < 0 || r > 3 || rows[r] == null || i < 0 || i >= sizeOf(rows[r])) return Long.MAX_VALUE;
        return rows[r] instanceof short[] s ? s[i] : rows[r] instanceof int[] s ? s[i] : ((long[]) rows[r])[i];
    }

    int lose(int r) {
        if (r < 0 || r > 3) return -1;
        if (rows[r] == null) return -3;
        rows[r] = null;
        return 1;
    }

    int lay(int r, int from, int n, int lane) {
        if (r < 0 || r > 3) return -1;
        if (rows[r] == null) return -3;
        if (!(rows[r] instanceof int[])) return -5;
        int[] row = (int[]) rows[r];
        if (n < 0 || from < 0 || (long) from + n > row.length || lane < 0 || (long) lane + n > lanes.size()) return -1;
        for (int i = 0; i < n; i++) {
            Lane l = lanes.get(lane + i);
            int v = row[from + i];
            boolean may = v >= 1 && v <= 1000;
            lanes.set(lane + i, new Lane(l.a, l.b, may ? v : l.length, may && l.open));
        }
        told.clear();
        return 1;
    }

    private static final int NOWHERE = 99999999;

    private int[][] ways() {
        int[][] d = new int[40][40];
        for (int[] row : d) Arrays.fill(row, NOWHERE);
        for (int i = 0; i < 40; i++) d[i][i] = 0;
        for (Lane l : lanes) {
            if (l.open) {
                d[l.a][l.b] = Math.min(d[l.a][l.b], l.length);
                d[l.b][l.a] = d[l.a][l.b];
            }
        }
        for (int k = 0; k < 40; k++)
            for (int i = 0; i < 40; i++)
                for (int j = 0; j < 40; j++)
                    d[i][j] = Math.min(d[i][j], d[i][k] + d[k][j]);
        return d;
    }

    int way(int a, int b) {
        if (a < 0 || a > 39 || b < 0 || b > 39) return -1;
        int way = ways()[a][b];
        return way == NOWHERE ? -10 : way;
    }

    int walk(int a, int b, int i) {
        if (a < 0 || a > 39 || b < 0 || b > 39) return -1;
        int[][] d = ways();
        if (d[a][b] == NOWHERE) return -1;
        List<Integer> walk = new ArrayList<>(List.of(a));
        while (walk.get(walk.size() - 1) != b) {
            int here = walk.get(walk.size() - 1);
            TreeSet<Integer> next = new TreeSet<>();
            for (Lane l : lanes) {
                if (l.open && l.a == here && l.length + d[l.b][b] == d[here][b]) next.add(l.b);
                if (l.open && l.b == here && l.length + d[l.a][b] == d[here][b]) next.add(l.a);
            }
            walk.add(next.first());
        }
        return i >= 0 && i < walk.size() ? walk.get(i) : -1;
    }

    int lamp(int crossing, int kind, int other) {
        if (crossing < 0 || crossing > 39 || kind < 0 || kind > 4) return -1;
        for (Lamp l : lamps) if (l.crossing == crossing) return -4;
        if (kind == 1 && (other < 0 || other >= lamps.size())) return -1;
        if (lamps.size() == 12) return -2;
        lamps.add(new Lamp(crossing, kind, other, false, 0));
        told.clear();
        return lamps.size() - 1;
    }

    int dark(int lamp, boolean on) {
        if (lamp < 0 || lamp >= lamps.size()) return -1;
        Lamp l = lamps.get(lamp);
        if (l.kind < 3) return -5;
        if (l.out == on) return 0;
        lamps.set(lamp, new Lamp(l.crossing, l.kind, l.other, on, l.price));
        told.clear();
        return 1;
    }

    /** The TWIN of any LAMP; -1 if it has none. */
    private int twinOf(int lamp, int[][] d) {
        Lamp l = lamps.get(lamp);
        if (l.kind == 1) return l.other;
        if (l.kind != 2) return -1;
        int best = -1;
        for (int o = 0; o < lamps.size(); o++) {
            int way = d[l.crossing][lamps.get(o).crossing];
            if (o != lamp && way != NOWHERE && (best < 0 || way < d[l.crossing][lamps.get(best).crossing])) best = o;
        }
        return best;
    }

    int twin(int lamp) {
        if (lamp < 0 || lamp >= lamps.size()) return -2;
        if (lamps.get(lamp).kind != 1 && lamps.get(lamp).kind != 2) return -5;
        return twinOf(lamp, ways());
    }

    int of(int lamp, int what) {
        if (lamp < 0 || lamp >= lamps.size() || what < 0 || what > 4) return Integer.MIN_VALUE;
        Lamp l = lamps.get(lamp);
        return new int[] {l.crossing, l.kind, l.kind == 4 ? 2 : 1, l.out ? 1 : 0, l.price}[what];
    }

    private List<Integer> live() {
        List<Integer> live = new ArrayList<>();
        for (int i = 0; i < lamps.size(); i++) if (!lamps.get(i).out) live.add(i);
        return live;
    }

    int many(int what) {
        int worth = 0;
        for (int l : live()) worth += lamps.get(l).kind == 4 ? 2 : 1;
        if (what < 0 || what > 5) return -1;
        return new int[] {lanes.size(), lamps.size(), live().size(), proof.size(), told.size(), worth}[what];
    }

    // ---- rounds

    private int lampWay(int[][] d, int a, int b) {
        return d[lamps.get(a).crossing][lamps.get(b).crossing];
    }

    private int lengthOf(List<Integer> round, int[][] d) {
        long sum = 0;
        for (int i = 0; i < round.size(); i++) {
            int way = lampWay(d, round.get(i), round.get((i + 1) % round.size()));
            if (way == NOWHERE) return NOWHERE;
            sum += way;
        }
        return (int) sum;
    }

    private boolean neighbours(List<Integer> round, int a, int b) {
        int n = round.size();
        int gap = Math.abs(round.indexOf(a) - round.indexOf(b));
        return gap == 1 || gap == n - 1;
    }

    private boolean keepsTwins(List<Integer> round, int[][] d) {
        for (int l : round) {
            int t = twinOf(l, d);
            if (t >= 0 && !lamps.get(t).out && !neighbours(round, l, t)) return false;
        }
        return true;
    }

    private List<Integer> written(List<Integer> round) {
        int n = round.size();
        int start = 0;
        for (int i = 0; i < n; i++) if (round.get(i) < round.get(start)) start = i;
        List<Integer> on = new ArrayList<>();
        List<Integer> back = new ArrayList<>();
        for (int i = 0; i < n; i++) {
            on.add(round.get((start + i) % n));
            back.add(round.get((start - i + n) % n));
        }
        return on.get(1) < back.get(1) ? on : back;
    }

    private interface Wish { boolean holds(List<Integer> round); }

    /** All ROUNDS as they are written, in the document's order, that keep TWINS and hold to the wish. */
    private List<Integer> best(Wish wish) {
        int[][] d = ways();
        List<Integer> live = live();
        if (live.size() < 3) return null;
        for (int a : live) for (int b : live) if (lampWay(d, a, b) == NOWHERE) return null;
        List<List<Integer>> all = new ArrayList<>();
        orders(new ArrayList<>(List.of(live.get(0))), live, all);
        List<Integer> best = null;
        for (List<Integer> round : all) {
            if (!round.equals(written(round)) || !keepsTwins(round, d) || !wish.holds(round)) continue;
            if (best == null || lengthOf(round, d) < lengthOf(best, d)) best = round;
        }
        return best;
    }

    private void orders(List<Integer> begun, List<Integer> live, List<List<Integer>> all) {
        if (begun.size() == live.size()) { all.add(new ArrayList<>(begun)); return; }
        for (int l : live) {
            if (!begun.contains(l)) {
                begun.add(l);
                orders(begun, live, all);
                begun.remove(begun.size() - 1);
            }
        }
    }

    int least() {
        if (live().size() > 8) return -8;
        List<Integer> best = best(r -> true);
        if (best == null) return -7;
        told = new ArrayList<>(best);
        return lengthOf(best, ways());
    }

    private boolean whole() {
        return told.size() == live().size() && told.size() >= 3;
    }

    int second() {
        if (!whole()) return -4;
        if (live().size() > 8) return -8;
        List<Integer> known = written(told);
        List<Integer> best = best(r -> !r.equals(known));
        return best == null ? -7 : lengthOf(best, ways());
    }

    private boolean isLive(int l) {
        return l >= 0 && l < lamps.size() && !lamps.get(l).out;
    }

    int with(int a, int b, boolean on) {
        if (!isLive(a) || !isLive(b) || a == b) return -1;
        if (live().size() > 8) return -8;
        List<Integer> best = best(r -> neighbours(r, a, b) == on);
        return best == null ? -7 : lengthOf(best, ways());
    }

    int put(int lamp) {
        if (lamp < 0 || lamp >= lamps.size()) return -1;
        if (lamps.get(lamp).out || told.contains(lamp)) return -4;
        told.add(lamp);
        return told.size();
    }

    int clear() {
        int had = told.size();
        told.clear();
        return had;
    }

    int at(int i) {
        return i >= 0 && i < told.size() ? told.get(i) : -1;
    }

    int length() {
        if (!whole()) return -4;
        int length = lengthOf(told, ways());
        return length == NOWHERE ? -10 : length;
    }

    int keeps() {
        if (!whole()) return -4;
        return keepsTwins(told, ways()) ? 1 : 0;
    }

    private List<Integer> turned(List<Integer> round, int i, int j) {
        List<Integer> out = new ArrayList<>(round);
        for (int k = i + 1; k <= j; k++) out.set(k, round.get(i + 1 + j - k));
        return out;
    }

    int turn(int i, int j) {
        if (!whole()) return -4;
        if (i < 0 || i >= j || j >= told.size()) return -1;
        told = turned(told, i, j);
        return 1;
    }

    int better() {
        if (!whole()) return -4;
        int[][] d = ways();
        if (lengthOf(told, d) == NOWHERE) return -10;
        for (int done = 0; done < 100; done++) {
            List<Integer> next = null;
            for (int i = 0; i < told.size() && next == null; i++) {
                for (int j = i + 1; j < told.size() && next == null; j++) {
                    List<Integer> t = turned(told, i, j);
                    if (lengthOf(t, d) < lengthOf(told, d) && (keepsTwins(t, d) || !keepsTwins(told, d))) next = t;
                }
            }
            if (next == null) return done;
            told = next;
        }
        return 100;
    }

    // ---- prices and proofs

    int price(int lamp, int v) {
        if (lamp < 0 || lamp >= lamps.size() || v < -100000 || v > 100000) return -1;
        setPrice(lamp, v);
        return 1;
    }

    private void setPrice(int lamp, int v) {
        Lamp l = lamps.get(lamp);
        lamps.set(lamp, new Lamp(l.crossing, l.kind, l.other, l.out, v));
    }

    private int priced(int[][] d, Pair p) {
        return lampWay(d, p.a, p.b) + lamps.get(p.a).price + lamps.get(p.b).price;
    }

    private List<Pair> sorted(int[][] d, Set<Pair> joined) {
        List<Integer> live = live();
        List<Pair> pairs = new ArrayList<>();
        for (int a : live) for (int b : live) if (a < b) pairs.add(new Pair(a, b));
        pairs.sort(Comparator.<Pair>comparingInt(p -> joined.contains(p) ? 0 : 1)
                .thenComparingInt(p -> lampWay(d, p.a, p.b) == NOWHERE ? 1 : 0)
                .thenComparingInt(p -> lampWay(d, p.a, p.b) == NOWHERE ? 0 : priced(d, p))
                .thenComparingInt(Pair::a).thenComparingInt(Pair::b));
        return pairs;
    }

    private Set<Integer> reach(int from, Iterable<Pair> pairs) {
        Set<Integer> reach = new TreeSet<>(Set.of(from));
        boolean grown = true;
        while (grown) {
            grown = false;
            for (Pair p : pairs) {
                if (reach.contains(p.a) != reach.contains(p.b)) {
                    reach.add(p.a);
                    reach.add(p.b);
                    grown = true;
                }
            }
        }
        return reach;
    }

    private List<Pair> tree(int[][] d, Set<Pair> joined, Set<Pair> parted) {
        int first = live().get(0);
        List<Pair> taken = new ArrayList<>();
        List<Pair> ofFirst = new ArrayList<>();
        for (Pair p : sorted(d, joined)) {
            if (parted.contains(p) || lampWay(d, p.a, p.b) == NOWHERE) continue;
            if (p.a == first) {
                if (ofFirst.size() < 2) ofFirst.add(p);
            } else if (!reach(p.a, taken).contains(p.b)) {
                taken.add(p);
            }
        }
        taken.addAll(ofFirst);
        return taken;
    }

    private static final long ENDLESS = 1L << 62;

    private long boundOf(int[][] d, Set<Pair> joined, Set<Pair> parted) {
        List<Pair> taken = tree(d, joined, parted);
        int first = live().get(0);
        long ofFirst = taken.stream().filter(p -> p.a == first).count();
        if (ofFirst < 2 || reach(first, taken).size() < live().size()) return ENDLESS;
        long sum = 0;
        for (Pair p : taken) sum += priced(d, p);
        for (int l : live()) sum -= 2L * lamps.get(l).price;
        return sum;
    }

    int climb(int n) {
        if (n < 1 || n > 100) return -1;
        if (live().size() < 3) return -4;
        int[][] d = ways();
        int done = 0;
        for (int step = 0; step < n; step++) {
            if (boundOf(d, Set.of(), Set.of()) == ENDLESS) continue;
            List<Pair> taken = tree(d, Set.of(), Set.of());
            for (int l : live()) {
                int has = (int) taken.stream().filter(p -> p.a == l || p.b == l).count();
                setPrice(l, lamps.get(l).price + has - 2);
            }
            done++;
        }
        return done;
    }

    long bound() {
        if (live().size() < 3) return -ENDLESS;
        return boundOf(ways(), Set.of(), Set.of());
    }

    int taken(int i) {
        if (live().size() < 3) return -1;
        List<Pair> taken = tree(ways(), Set.of(), Set.of());
        return i >= 0 && i < taken.size() ? 16 * taken.get(i).a + taken.get(i).b : -1;
    }

    private boolean stands(Line line, int n, int[][] d, Set<Pair> joined, Set<Pair> parted) {
        int a = line.a;
        int b = line.b;
        switch (line.op) {
            case 1:
                return a < b && isLive(a) && isLive(b) && !joined.contains(new Pair(a, b)) && !parted.contains(new Pair(a, b));
            case 2:
                long bound = boundOf(d, joined, parted);
                return bound == ENDLESS || bound >= n;
            case 3:
                if (!isLive(a)) return false;
                int left = 0;
                for (int o : live()) if (o != a && !parted.contains(new Pair(Math.min(a, o), Math.max(a, o)))) left++;
                return left < 2;
            case 4:
                return isLive(a) && degree(a, joined) > 2;
            case 5:
                if (!isLive(a)) return false;
                Set<Integer> ring = reach(a, joined);
                for (int l : ring) if (degree(l, joined) != 2) return false;
                return ring.size() < live().size();
            default:
                return isLive(a) && isLive(b) && (twinOf(a, d) == b || twinOf(b, d) == a)
                        && parted.contains(new Pair(Math.min(a, b), Math.max(a, b)));
        }
    }

    private int degree(int a, Set<Pair> joined) {
        int n = 0;
        for (Pair p : joined) if (p.a == a || p.b == a) n++;
        return n;
    }

    private static Set<Pair> plus(Set<Pair> set, Pair p) {
        Set<Pair> more = new LinkedHashSet<>(set);
        more.add(p);
        return more;
    }

    /** Whether it was written; false is SPENT. */
    private boolean write(List<Line> out, int n, int[][] d, Set<Pair> joined, Set<Pair> parted) {
        if (out.size() == 400) return false;
        Line line = firstLine(n, d, joined, parted);
        if (line == null) return false;
        out.add(line);
        if (line.op != 1) return true;
        Pair p = new Pair(line.a, line.b);
        return write(out, n, d, plus(joined, p), parted) && write(out, n, d, joined, plus(parted, p));
    }

    private Line firstLine(int n, int[][] d, Set<Pair> joined, Set<Pair> parted) {
        List<Line> tries = new ArrayList<>();
        for (int a = 0; a < 12; a++) for (int b = 0; b < 12; b++) tries.add(new Line(6, a, b));
        for (int op = 3; op <= 5; op++) for (int a = 0; a < 12; a++) tries.add(new Line(op, a, 0));
        tries.add(new Line(2, 0, 0));
        for (Pair p : sorted(d, Set.of())) tries.add(new Line(1, p.a, p.b));
        for (Line line : tries) if (stands(line, n, d, joined, parted)) return line;
        return null;
    }

    int prove(int n) {
        if (n < 0) return -1;
        if (live().size() < 3) return -4;
        List<Line> lines = new ArrayList<>();
        if (!write(lines, n, ways(), Set.of(), Set.of())) return -9;
        proof = lines;
        return proof.size();
    }

    int line(int op, int a, int b) {
        if (op < 1 || op > 6) return -1;
        if (proof.size() == 400) return -2;
        proof.add(new Line(op, a, b));
        return proof.size();
    }

    int alter(int i, int op, int a, int b) {
        if (i < 0 || i >= proof.size() || op < 1 || op > 6) return -1;
        proof.set(i, new Line(op, a, b));
        return 1;
    }

    int cut(int n) {
        if (n < 0 || n > proof.size()) return -1;
        proof = new ArrayList<>(proof.subList(0, n));
        return n;
    }

    int shown(int i, int what) {
        if (i < 0 || i >= proof.size() || what < 0 || what > 2) return Integer.MIN_VALUE;
        Line l = proof.get(i);
        return what == 0 ? l.op : what == 1 ? l.a : l.b;
    }

    /** Where the PROOF that begins at i ends; or -1 - w if w is the WRONG LINE. */
    private int read(int i, int n, int[][] d, Set<Pair> joined, Set<Pair> parted) {
        if (i == proof.size() || !stands(proof.get(i), n, d, joined, parted)) return -1 - i;
        Line line = proof.get(i);
        if (line.op != 1) return i + 1;
        Pair p = new Pair(line.a, line.b);
        int middle = read(i + 1, n, d, plus(joined, p), parted);
        return middle < 0 ? middle : read(middle, n, d, joined, plus(parted, p));
    }

    int check(int n) {
        if (n < 0) return -2;
        if (live().size() < 3) return -4;
        int end = read(0, n, ways(), Set.of(), Set.of());
        if (end < 0) return -1 - end;
        return end == proof.size() ? -1 : end;
    }
}
