import java.util.ArrayDeque;
import java.util.ArrayList;
import java.util.Arrays;
import java.util.Comparator;
import java.util.Deque;
import java.util.HashMap;
import java.util.List;
import java.util.Map;

/**
 * The document told again as slowly and plainly as can be, to compare with: a PIECE is its eight whole
 * numbers, its CORNERS are all crossings of two lines that keep to all eight, undo() takes a copy back.
 */
final class PlainYard {
    private static final int BAD = -1, STATE = -2, FULL = -3, NONE = -4;
    private static final int[][] NORMAL = {{1, 0}, {0, 1}, {1, 1}, {1, -1}, {-1, 0}, {0, -1}, {-1, -1}, {-1, 1}};

    private record Stone(int[] e, int thickness, int block, int blockArea, boolean there) {
        Stone with(int[] changed) {
            return new Stone(changed, thickness, block, blockArea, there);
        }

        Stone gone() {
            return new Stone(e, thickness, block, blockArea, false);
        }
    }

    private record Before(List<Stone> stones, int fresh) { }

    private record Rule(int number, int first, int second, int joint, int pack) { }

    private record Part(int number, boolean whole) { }

    private List<Stone> stones = new ArrayList<>();
    private final Deque<Before> history = new ArrayDeque<>();
    private final List<Rule> rules = new ArrayList<>(List.of(new Rule(0, 9, 9, 1, 0)));
    private final boolean[] packOn = {true, true, true, true, true, true, true, true};
    private final List<List<Part>> assemblies = new ArrayList<>();

    // ---- shapes

    /** Doubled CORNERS, first the one with the least x (then y), then with the inside on the left. */
    private static List<int[]> corners(int[] e) {
        List<int[]> found = new ArrayList<>();
        for (int j = 0; j < 8; j++) {
            for (int k = j + 1; k < 8; k++) {
                int det = NORMAL[j][0] * NORMAL[k][1] - NORMAL[k][0] * NORMAL[j][1];
                if (det != 0) {
                    int x = 2 * (e[j] * NORMAL[k][1] - e[k] * NORMAL[j][1]) / det;
                    int y = 2 * (NORMAL[j][0] * e[k] - NORMAL[k][0] * e[j]) / det;
                    if (isIn(e, x, y) && found.stream().noneMatch(c -> c[0] == x && c[1] == y)) {
                        found.add(new int[] {x, y});
                    }
                }
            }
        }
        found.sort(Comparator.<int[]>comparingInt(c -> c[0]).thenComparingInt(c -> c[1]));
        if (found.size() > 2) {
            int[] start = found.get(0);
            found.subList(1, found.size()).sort((a, b) ->
                Integer.signum((b[0] - start[0]) * (a[1] - start[1]) - (a[0] - start[0]) * (b[1] - start[1])));
        }
        return found;
    }

    private static boolean isIn(int[] e, int x, int y) {
        for (int k = 0; k < 8; k++) {
            if (NORMAL[k][0] * x + NORMAL[k][1] * y > 2 * e[k]) {
                return false;
            }
        }
        return true;
    }

    private static int area8(int[] e) {
        List<int[]> c = corners(e);
        int sum = 0;
        for (int i = 0; i < c.size(); i++) {
            int[] a = c.get(i), b = c.get((i + 1) % c.size());
            sum += a[0] * b[1] - b[0] * a[1];
        }
        return sum;
    }

    private static boolean samePoints(int[] one, int[] other) {
        List<int[]> a = corners(one), b = corners(other);
        if (a.size() != b.size()) {
            return false;
        }
        for (int i = 0; i < a.size(); i++) {
            if (!Arrays.equals(a.get(i), b.get(i))) {
                return false;
            }
        }
        return true;
    }

    /** The least numbers that tell the same points, by trying the next lower one. */
    private static int[] least(int[] e) {
        int[] now = e.clone();
        for (int k = 0; k < 8; k++) {
            while (true) {
                int[] lower = now.clone();
                lower[k]--;
                if (!samePoints(now, lower)) {
                    break;
                }
                now = lower;
            }
        }
        return now;
    }

    private static int direction(int[] e, int[] a, int[] b) {
        for (int k = 0; k < 8; k++) {
            boolean both = NORMAL[k][0] * a[0] + NORMAL[k][1] * a[1] == 2 * e[k]
                && NORMAL[k][0] * b[0] + NORMAL[k][1] * b[1] == 2 * e[k];
            if (both) {
                return k;
            }
        }
        throw new IllegalStateException("a side without a direction");
    }

    private static List<Integer> directions(int[] e) {
        List<int[]> c = corners(e);
        List<Integer> all = new ArrayList<>();
        for (int i = 0; i < c.size(); i++) {
            all.add(direction(e, c.get(i), c.get((i + 1) % c.size())));
        }
        return all;
    }

    private static int kind(int[] e) {
        List<Integer> d = directions(e);
        int n = d.size();
        if (n == 4 && d.containsAll(List.of(0, 1, 4, 5))) {
            return 0;
        }
        if (n == 4 && Math.abs(d.get(0) - d.get(2)) == 4 && Math.abs(d.get(1) - d.get(3)) == 4) {
            return 1;
        }
        return n == 3 ? 2 : n == 4 ? 3 : n <= 6 ? 4 : 5;
    }

    private static int family(int kind) {
        return kind <= 1 ? 6 : kind <= 3 ? 7 : 8;
    }

    private static boolean overlap(int[] a, int[] b) {
        int[] both = new int[8];
        for (int k = 0; k < 8; k++) {
            both[k] = Math.min(a[k], b[k]);
        }
        return corners(both).size() >= 3 && area8(both) > 0;
    }

    /** The common length of two SIDES, doubled; 0 if it is a point or nothing. */
    private static int common(int[] a, int[] b, int[] c, int[] d) {
        int ux = b[0] - a[0], uy = b[1] - a[1];
        boolean oneLine = ux * (c[1] - a[1]) == uy * (c[0] - a[0]) && ux * (d[1] - a[1]) == uy * (d[0] - a[0]);
        if (!oneLine) {
            return 0;
        }
        int by = ux == 0 ? 1 : 0;
        int low = Math.max(Math.min(a[by], b[by]), Math.min(c[by], d[by]));
        int high = Math.min(Math.max(a[by], b[by]), Math.max(c[by], d[by]));
        return Math.max(0, high - low);
    }

    /** Direction and length of the TOUCH, or null. */
    private static int[] touching(int[] e, int[] f) {
        if (overlap(e, f)) {
            return null;
        }
        List<int[]> c = corners(e), d = corners(f);
        for (int i = 0; i < c.size(); i++) {
            int[] a = c.get(i), b = c.get((i + 1) % c.size());
            for (int j = 0; j < d.size(); j++) {
                int length = common(a, b, d.get(j), d.get((j + 1) % d.size()));
                if (length > 0) {
                    return new int[] {direction(e, a, b), length};
                }
            }
        }
        return null;
    }

    // ---- pieces

    private Stone find(int p) {
        return p >= 0 && p < stones.size() && stones.get(p).there ? stones.get(p) : null;
    }

    private void keep(int fresh) {
        history.addLast(new Before(new ArrayList<>(stones), fresh));
        if (history.size() > 8) {
            history.removeFirst();
        }
    }

    private static boolean out(int n, int low, int high) {
        return n < low || n > high;
    }

    int block(int w, int h, int l) {
        if (out(w, 1, 1000) || out(h, 1, 1000) || out(l, 1, 1000)) {
            return BAD;
        }
        if (stones.size() == 60) {
            return FULL;
        }
        keep(stones.size());
        stones.add(new Stone(new int[] {w, h, w + h, w, 0, 0, 0, h}, l, stones.size(), 8 * w * h, true));
        return stones.size() - 1;
    }

    int cut(int p, int way, int c) {
        Stone s = find(p);
        if (s == null || out(way, 0, 3) || out(c, -4000, 4000)) {
            return BAD;
        }
        int[] low = s.e.clone(), high = s.e.clone();
        low[way] = Math.min(low[way], c);
        high[way + 4] = Math.min(high[way + 4], -c);
        if (area8(low) <= 0 || area8(high) <= 0 || samePoints(low, s.e) || samePoints(high, s.e)) {
            return STATE;
        }
        if (stones.size() == 60) {
            return FULL;
        }
        keep(stones.size());
        stones.set(p, s.with(least(low)));
        stones.add(new Stone(least(high), s.thickness, s.block, 0, true));
        return stones.size() - 1;
    }

    int move(int p, int x, int y) {
        Stone s = find(p);
        if (s == null || out(x, -1000, 1000) || out(y, -1000, 1000)) {
            return BAD;
        }
        int[] e = s.e.clone();
        for (int k = 0; k < 8; k++) {
            e[k] += NORMAL[k][0] * x + NORMAL[k][1] * y;
            if (Math.abs(e[k]) > 4000) {
                return BAD;
            }
        }
        keep(-1);
        stones.set(p, s.with(e));
        return 1;
    }

    int turn(int p, int way) {
        Stone s = find(p);
        if (s == null || out(way, 0, 2)) {
            return BAD;
        }
        int[] e = new int[8];
        Arrays.fill(e, Integer.MIN_VALUE);
        for (int[] c : corners(s.e)) {
            int x = way == 0 ? -c[1] : way == 1 ? -c[0] : c[1];
            int y = way == 1 ? c[1] : c[0];
            for (int k = 0; k < 8; k++) {
                e[k] = Math.max(e[k], (int) Math.ceil((NORMAL[k][0] * x + NORMAL[k][1] * y) / 2.0));
            }
        }
        keep(-1);
        stones.set(p, s.with(e));
        return 1;
    }

    int scrap(int p) {
        Stone s = find(p);
        if (s == null) {
            return BAD;
        }
        if (stands(p)) {
            return STATE;
        }
        keep(-1);
        stones.set(p, s.gone());
        return 1;
    }

    int bound(int p, int k) {
        Stone s = find(p);
        return s == null || out(k, 0, 7) ? 100000 : s.e[k];
    }

    int about(int p, int what) {
        Stone s = find(p);
        if (s == null || out(what, 0, 4)) {
            return BAD;
        }
        int kind = kind(s.e);
        return new int[] {kind, corners(s.e).size(), s.thickness, s.block, family(kind)}[what];
    }

    int corner(int p, int i, int what) {
        Stone s = find(p);
        return s == null || out(i, 0, corners(s.e).size() - 1) || out(what, 0, 1) ? 100000 : corners(s.e).get(i)[what];
    }

    int side(int p, int i) {
        Stone s = find(p);
        return s == null || out(i, 0, corners(s.e).size() - 1) ? BAD : directions(s.e).get(i);
    }

    int area(int p) {
        Stone s = find(p);
        return s == null ? BAD : area8(s.e);
    }

    long volume(int p) {
        Stone s = find(p);
        return s == null ? BAD : (long) area8(s.e) * s.thickness;
    }

    int inside(int p, int x, int y) {
        Stone s = find(p);
        if (s == null || out(x, -10000, 10000) || out(y, -10000, 10000)) {
            return BAD;
        }
        List<int[]> c = corners(s.e);
        int answer = 2;
        for (int i = 0; i < c.size(); i++) {
            int[] a = c.get(i), b = c.get((i + 1) % c.size());
            long left = (long) (b[0] - a[0]) * (y - a[1]) - (long) (b[1] - a[1]) * (x - a[0]);
            answer = left < 0 ? 0 : left == 0 ? Math.min(answer, 1) : answer;
        }
        return answer;
    }

    int waste(int p) {
        if (out(p, 0, stones.size() - 1) || stones.get(p).block != p) {
            return BAD;
        }
        return stones.get(p).blockArea
            - stones.stream().filter(s -> s.there && s.block == p).mapToInt(s -> area8(s.e)).sum();
    }

    int near(int a, int b) {
        Stone s = find(a), t = find(b);
        if (s == null || t == null || a == b) {
            return BAD;
        }
        return overlap(s.e, t.e) ? 2 : touching(s.e, t.e) != null ? 1 : 0;
    }

    int touch(int a, int b, int what) {
        Stone s = find(a), t = find(b);
        if (s == null || t == null || a == b || out(what, 0, 1)) {
            return BAD;
        }
        int[] touch = touching(s.e, t.e);
        return touch == null ? NONE : touch[what];
    }

    // ---- rules

    int rule(int first, int second, int joint, int pack) {
        if (out(first, 0, 9) || out(second, 0, 9) || out(joint, 1, 99) || out(pack, 0, 7)) {
            return BAD;
        }
        if (rules.size() == 40) {
            return FULL;
        }
        rules.add(new Rule(rules.size(), first, second, joint, pack));
        return rules.size() - 1;
    }

    int pack(int n, boolean on) {
        if (out(n, 0, 7) || n == 0 && !on) {
            return BAD;
        }
        int was = packOn[n] ? 1 : 0;
        packOn[n] = on;
        return was;
    }

    private static int steps(int kind, int upper) {
        return List.of(kind, family(kind), 9).indexOf(upper);
    }

    private static int sum(Rule r, int k, int l) {
        return steps(k, r.first) + steps(l, r.second);
    }

    private List<Rule> counting(int k, int l) {
        List<Rule> all = new ArrayList<>();
        for (Rule r : rules) {
            if (packOn[r.pack] && steps(k, r.first) >= 0 && steps(l, r.second) >= 0) {
                all.add(r);
            }
        }
        all.sort(Comparator.<Rule>comparingInt(r -> sum(r, k, l))
            .thenComparingInt(r -> steps(k, r.first)).thenComparingInt(r -> -r.number));
        return all;
    }

    int above(int k, int l, int i) {
        if (out(k, 0, 5) || out(l, 0, 5) || i < 0) {
            return BAD;
        }
        List<Rule> all = counting(k, l);
        return i < all.size() ? all.get(i).number : NONE;
    }

    int treats(int k, int l) {
        if (out(k, 0, 5) || out(l, 0, 5)) {
            return BAD;
        }
        List<Rule> all = counting(k, l);
        Rule treating = all.get(0);
        for (Rule r : all) {
            if (sum(r, k, l) == sum(treating, k, l) && steps(k, r.first) != steps(k, treating.first)) {
                return -5;
            }
        }
        return treating.number;
    }

    int undecided() {
        int pairs = 0;
        for (int pair = 0; pair < 36; pair++) {
            pairs += treats(pair / 6, pair % 6) == -5 ? 1 : 0;
        }
        return pairs;
    }

    int meet(int a, int b) {
        int near = near(a, b);
        if (near != 1) {
            return near == BAD ? BAD : STATE;
        }
        int treating = treats(kind(find(a).e), kind(find(b).e));
        return treating == -5 ? -5 : rules.get(treating).joint;
    }

    // ---- assemblies

    private boolean stands(int p) {
        return assemblies.stream().anyMatch(a -> a.contains(new Part(p, false)));
    }

    private boolean reaches(int from, int to) {
        return from == to || assemblies.get(from).stream().anyMatch(q -> q.whole && reaches(q.number, to));
    }

    /** What is WALKED, cut off behind the 501st. */
    private List<Integer> way(int a, Map<Integer, List<Integer>> known) {
        if (!known.containsKey(a)) {
            List<Integer> all = new ArrayList<>();
            for (Part q : assemblies.get(a)) {
                all.addAll(q.whole ? way(q.number, known) : List.of(q.number));
            }
            known.put(a, all.size() > 501 ? new ArrayList<>(all.subList(0, 501)) : all);
        }
        return known.get(a);
    }

    private List<Integer> way(int a) {
        return way(a, new HashMap<>());
    }

    private boolean isAssembly(int a) {
        return !out(a, 0, assemblies.size() - 1);
    }

    int assembly() {
        if (assemblies.size() == 12) {
            return FULL;
        }
        assemblies.add(new ArrayList<>());
        return assemblies.size() - 1;
    }

    int put(int into, int what, boolean whole) {
        if (!isAssembly(into) || (whole ? !isAssembly(what) : find(what) == null)) {
            return BAD;
        }
        if (whole && reaches(what, into)) {
            return STATE;
        }
        List<Part> row = assemblies.get(into);
        row.add(new Part(what, whole));
        boolean full = row.size() > 20;
        for (int a = 0; a < assemblies.size(); a++) {
            full |= way(a).size() > 500;
        }
        if (full) {
            row.remove(row.size() - 1);
            return FULL;
        }
        return row.size();
    }

    int walked(int a) {
        return isAssembly(a) ? way(a).size() : BAD;
    }

    int walk(int a, int i) {
        if (!isAssembly(a) || i < 0) {
            return BAD;
        }
        return i < way(a).size() ? way(a).get(i) : NONE;
    }

    long weight(int a) {
        return isAssembly(a) ? way(a).stream().mapToLong(this::volume).sum() : BAD;
    }

    private int priceOf(int p) {
        Stone s = find(p);
        int slanted = (int) directions(s.e).stream().filter(List.of(2, 3, 6, 7)::contains).count();
        return 3 * corners(s.e).size() + 2 * slanted + s.thickness + (family(kind(s.e)) == 8 ? 10 : 0);
    }

    int price(int a) {
        return isAssembly(a) ? way(a).stream().mapToInt(this::priceOf).sum() : BAD;
    }

    private boolean rests(int p, int[] e, List<Integer> among) {
        List<int[]> c = corners(e);
        if (c.stream().anyMatch(at -> at[1] <= 0)) {
            return true;
        }
        for (int q : among) {
            int[] f = find(q).e;
            List<int[]> d = corners(f);
            for (int i = 0; q != p && i < c.size(); i++) {
                for (int j = 0; j < d.size(); j++) {
                    boolean onIt = directions(e).get(i) == 5 && directions(f).get(j) == 1
                        && common(c.get(i), c.get((i + 1) % c.size()), d.get(j), d.get((j + 1) % d.size())) > 0;
                    if (onIt) {
                        return true;
                    }
                }
            }
        }
        return false;
    }

    int check(int a) {
        if (!isAssembly(a)) {
            return BAD;
        }
        List<Integer> among = way(a).stream().distinct().toList();
        for (int p : among) {
            if (!rests(p, find(p).e, among)) {
                return p;
            }
        }
        return NONE;
    }

    int undo() {
        if (history.isEmpty()) {
            return NONE;
        }
        if (stands(history.getLast().fresh)) {
            return STATE;
        }
        stones = history.removeLast().stones;
        return history.size();
    }

    int count(int what) {
        switch (what) {
            case 0: return (int) stones.stream().filter(Stone::there).count();
            case 1: return rules.size();
            case 2: return assemblies.size();
            case 3: return (int) stones.stream().filter(s -> s.blockArea > 0).count();
            default: return BAD;
        }
    }
}
