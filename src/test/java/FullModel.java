import java.util.ArrayDeque;
import java.util.ArrayList;
import java.util.Arrays;
import java.util.Deque;
import java.util.List;
import java.util.TreeMap;

/**
 * The document a third time, for LAKES of any size: WAYS are found by other means than the program's own (rows of
 * CELLS grown in their order, flows for SAWN, all rows of 8 CELLS for LUCKY), everything else from scratch each time.
 */
final class FullModel {
    int w = 4;
    int h = 4;
    int bear = 10;
    final int[] thick = new int[36];
    final int[] snow = new int[36];
    final int[] weak = new int[36];
    final boolean[][] crack = new boolean[36][36];
    final boolean[] shore = new boolean[36];
    int[] frosts = {0};
    int[][] shops = {};
    int least;
    int apart;
    int share = 5;
    int rent = 1;
    int[][] lanes = {};
    final boolean[] barred = new boolean[36];
    int[][] acts = {};

    FullModel(Texts lake, Texts law, Texts plan) {
        Arrays.fill(thick, 20);
        for (Texts.Line line : lake.lines) {
            tellLake(line.word, line.numbers.stream().mapToInt(i -> i).toArray());
        }
        for (Texts.Line line : law.lines) {
            tellLaw(line.word, line.numbers.stream().mapToInt(i -> i).toArray());
        }
        for (Texts.Line line : plan.lines) {
            int[] act = {-1, -1, -1, -1};
            act[0] = List.of("day", "move", "off", "go", "sweep").indexOf(line.word);
            for (int i = 0; i < line.numbers.size(); i++) {
                act[i + 1] = line.numbers.get(i);
            }
            acts = with(acts, act);
        }
    }

    private static int[][] with(int[][] rows, int[] row) {
        int[][] more = Arrays.copyOf(rows, rows.length + 1);
        more[rows.length] = row;
        return more;
    }

    private void tellLake(String word, int[] a) {
        switch (word) {
            case "size": w = a[0]; h = a[1]; break;
            case "all": Arrays.fill(thick, a[0]); break;
            case "ice": thick[a[0]] = a[1]; break;
            case "snow": snow[a[0]] = a[1]; break;
            case "weak": weak[a[0]] = a[1]; break;
            case "crack": crack[a[0]][a[1]] = crack[a[1]][a[0]] = true; break;
            case "frost": frosts = a; break;
            case "bear": bear = a[0]; break;
            case "shop": shops = with(shops, a); break;
            default: for (int c : a) { shore[c] = true; } break;
        }
    }

    private void tellLaw(String word, int[] a) {
        switch (word) {
            case "least": least = a[0]; break;
            case "apart": apart = a[0]; break;
            case "share": share = a[0]; break;
            case "rent": rent = a[0]; break;
            case "lane": lanes = with(lanes, a); break;
            default: for (int c : a) { barred[c] = true; } break;
        }
    }

    boolean beside(int a, int b) {
        int x = a % w - b % w;
        int y = a / w - b / w;
        return x * x + y * y == 1;
    }

    int steps(int a, int b) {
        return Math.abs(a % w - b % w) + Math.abs(a / w - b / w);
    }

    boolean near(int a, int b) {
        return beside(a, b) && !crack[a][b];
    }

    boolean against(int a, int b) {
        return Arrays.stream(lanes).anyMatch(l -> l[0] == b && l[1] == a);
    }

    /** A STATE; what may be otherwise than told (WEIGHT, STOVE) is in it, too. */
    final class Now {
        int[] ice = thick.clone();
        int[] white = snow.clone();
        int[] at = new int[shops.length];
        int[] weight = new int[shops.length];
        int[] stove = new int[shops.length];
        int day;
        int paid;

        Now() {
            for (int s = 0; s < shops.length; s++) {
                at[s] = shops[s][0];
                weight[s] = shops[s][1];
                stove[s] = shops[s][2];
            }
            sink();
        }

        Now(Now other) {
            ice = other.ice.clone();
            white = other.white.clone();
            at = other.at.clone();
            weight = other.weight.clone();
            stove = other.stove.clone();
            day = other.day;
            paid = other.paid;
        }

        int bears(int c) {
            return ice[c] * ice[c] / bear;
        }

        int shopAt(int c) {
            for (int s = 0; s < at.length; s++) {
                if (at[s] == c) {
                    return s;
                }
            }
            return -1;
        }

        /** LOAD, without what a SHOP that moves brings. */
        int load(int c, int mover) {
            int sum = 0;
            for (int d = 0; d < w * h; d++) {
                int s = shopAt(d);
                if (s >= 0 && s != mover) {
                    sum += d == c ? weight[s] : near(c, d) ? weight[s] * share / 10 : 0;
                }
            }
            return sum;
        }

        int firstToFall() {
            for (int s = 0; s < at.length; s++) {
                if (at[s] >= 0 && bears(at[s]) < load(at[s], -1)) {
                    return s;
                }
            }
            return -1;
        }

        void sink() {
            for (int s = firstToFall(); s >= 0; s = firstToFall()) {
                ice[at[s]] = 0;
                at[s] = -2;
            }
        }

        int frost() {
            return frosts[day % frosts.length];
        }

        void pass(int f) {
            for (int c = 0; c < w * h; c++) {
                int grown = f > 0 ? Math.max(0, f - white[c]) : f;
                int heat = 0;
                for (int s = 0; s < at.length; s++) {
                    heat += at[s] == c ? stove[s] : at[s] >= 0 && near(at[s], c) ? stove[s] / 2 : 0;
                }
                ice[c] = Math.min(99, Math.max(0, ice[c] + grown - heat));
            }
            day++;
            for (int a : at) {
                paid += a >= 0 ? rent * ice[a] / 10 : 0;
            }
            sink();
        }

        Now behind(int days) {
            Now then = new Now(this);
            for (int d = 0; d < days; d++) {
                then.pass(then.frost());
            }
            return then;
        }

        Now winter(int seed, int days) {
            Now then = new Now(this);
            long x = seed & 0xffffffffL;
            for (int d = 0; d < days; d++) {
                x = (x * 1103515245L + 12345L) & 0xffffffffL;
                then.pass(then.frost() + (int) ((x >> 16) % 7) - 3);
            }
            return then;
        }

        boolean stands(int s) {
            return s >= 0 && s < at.length && at[s] >= 0;
        }

        /** May a load come to a CELL? */
        boolean lets(int c, int load, int mover, int thicker) {
            int s = shopAt(c);
            int inches = ice[c] + thicker;
            return (s < 0 || s == mover) && inches >= least && inches * inches / bear >= load + load(c, mover);
        }

        boolean[] open(int load, int mover, int thicker) {
            boolean[] open = new boolean[w * h];
            for (int c = 0; c < w * h; c++) {
                open[c] = lets(c, load, mover, thicker);
            }
            return open;
        }

        boolean canOff(int s) {
            if (!stands(s)) {
                return false;
            }
            List<Integer>[] ways = grown(open(weight[s], s, 0), at[s]);
            for (int c = 0; c < w * h; c++) {
                if (shore[c] && (c == at[s] || ways[c] != null)) {
                    return true;
                }
            }
            return false;
        }

        boolean canMove(int s, int c) {
            if (!stands(s) || c < 0 || c >= w * h || c == at[s] || barred[c]) {
                return false;
            }
            for (int o = 0; o < at.length; o++) {
                if (o != s && at[o] >= 0 && stove[s] > 0 && stove[o] > 0 && steps(at[o], c) < apart) {
                    return false;
                }
            }
            return grown(open(weight[s], s, 0), at[s])[c] != null;
        }

        boolean act(int[] act) {
            int a = act[1];
            switch (act[0]) {
                case 0:
                    pass(frost());
                    return true;
                case 1:
                    if (!canMove(a, act[2])) {
                        return false;
                    }
                    at[a] = act[2];
                    break;
                case 2:
                    if (!canOff(a)) {
                        return false;
                    }
                    at[a] = -1;
                    break;
                case 3:
                    if (Math.max(act[2], act[3]) >= w * h || shortWay(a, act[2], act[3]) == null) {
                        return false;
                    }
                    shortWay(a, act[2], act[3]).forEach(c -> white[c] = 0);
                    break;
                default:
                    if (a >= w * h) {
                        return false;
                    }
                    white[a] = 0;
                    break;
            }
            sink();
            return true;
        }

        List<Integer> shortWay(int load, int from, int to) {
            return grown(open(load, -1, 0), from)[to];
        }

        int holds(int s) {
            for (int d = 1; d <= 60; d++) {
                if (!behind(d).stands(s)) {
                    return d;
                }
            }
            return 61;
        }
    }

    /** Of each CELL the first of the fewest CELLS: rows of CELLS grow in their own order, so the first to come stays. */
    @SuppressWarnings("unchecked")
    List<Integer>[] grown(boolean[] open, int from) {
        List<Integer>[] ways = new List[w * h];
        boolean[] seen = new boolean[w * h];
        seen[from] = true;
        Deque<List<Integer>> rows = new ArrayDeque<>(List.of(List.of(from)));
        while (!rows.isEmpty()) {
            List<Integer> row = rows.poll();
            int c = row.get(row.size() - 1);
            for (int d = 0; d < w * h; d++) {
                if (!seen[d] && open[d] && beside(c, d) && !against(c, d)) {
                    seen[d] = true;
                    List<Integer> longer = new ArrayList<>(row);
                    longer.add(d);
                    ways[d] = longer;
                    rows.add(longer);
                }
            }
        }
        return ways;
    }

    /** What is left to spare at the least, of a WAY with the most: it is just what one of the CELLS BEARS more. */
    int mostMore(Now s, int load, int from, int to) {
        int most = -1;
        for (int c = 0; c < w * h; c++) {
            int more = s.bears(c) - s.load(c, -1) - load;
            if (more > most && grown(s.open(load + more, -1, 0), from)[to] != null) {
                most = more;
            }
        }
        return most;
    }

    long chance(List<Integer> row) {
        long parts = 10000000;
        for (int i = 1; i < row.size(); i++) {
            parts = parts / 10 * (10 - weak[row.get(i)]);
        }
        return parts;
    }

    List<Integer> lucky(Now s, int load, int from, int to) {
        List<List<Integer>> all = new ArrayList<>();
        grow(s.open(load, -1, 0), new ArrayList<>(List.of(from)), to, all);
        List<Integer> best = null;
        for (List<Integer> row : all) {
            // Of rows as long, that which was found first is the first by rows.
            if (best == null || chance(row) > chance(best)
                || chance(row) == chance(best) && row.size() < best.size()) {
                best = row;
            }
        }
        return best;
    }

    private void grow(boolean[] open, List<Integer> row, int to, List<List<Integer>> all) {
        int c = row.get(row.size() - 1);
        if (c == to) {
            all.add(new ArrayList<>(row));
            return;
        }
        for (int d = 0; d < w * h && row.size() < 8; d++) {
            if (open[d] && beside(c, d) && !against(c, d) && !row.contains(d)) {
                row.add(d);
                grow(open, row, to, all);
                row.remove(row.size() - 1);
            }
        }
    }

    /** By flows: so many WAYS without a common CELL there are as CELLS must go. */
    int sawn(Now s, int load, int from, int to) {
        boolean[] open = s.open(load, -1, 0);
        if (beside(from, to) && open[to] && !against(from, to)) {
            return -1;
        }
        int n = w * h;
        int[][] left = new int[2 * n][2 * n];
        for (int c = 0; c < n; c++) {
            left[c][n + c] = c == from || c == to ? 99 : 1;
            for (int d = 0; d < n; d++) {
                if (open[d] && beside(c, d) && !against(c, d)) {
                    left[n + c][d] = 99;
                }
            }
        }
        int flow = 0;
        while (push(left, new boolean[2 * n], n + from, to)) {
            flow++;
        }
        return flow;
    }

    private boolean push(int[][] left, boolean[] seen, int at, int to) {
        if (at == to) {
            return true;
        }
        seen[at] = true;
        for (int next = 0; next < left.length; next++) {
            if (!seen[next] && left[at][next] > 0 && push(left, seen, next, to)) {
                left[at][next]--;
                left[next][at]++;
                return true;
            }
        }
        return false;
    }

    int struck(Now s, int load, int from, int to) {
        boolean[] open = s.open(load, -1, 0);
        int[] cost = new int[w * h];
        Arrays.fill(cost, 1000);
        cost[from] = 0;
        TreeMap<Integer, Integer> todo = new TreeMap<>();
        todo.put(from, 0);
        while (!todo.isEmpty()) {
            // The key has the cost before the CELL, so the least cost is done first.
            int c = todo.pollFirstEntry().getKey() % 100;
            for (int d = 0; d < w * h; d++) {
                int next = cost[c] + (against(c, d) ? 1 : 0);
                if (open[d] && beside(c, d) && next < cost[d]) {
                    cost[d] = next;
                    todo.put(next * 100 + d, 0);
                }
            }
        }
        return cost[to] == 1000 ? -1 : cost[to];
    }

    /** The WORTH that is not off, then the row of SHOPS. */
    int[] drawn(Now s, int days) {
        if (days == 0) {
            int sum = 0;
            for (int k = 0; k < s.at.length; k++) {
                sum += s.at[k] == -1 ? 0 : shops[k][3];
            }
            return new int[] {sum};
        }
        int[] best = null;
        for (int k = 0; k <= s.at.length; k++) {
            boolean none = k == s.at.length;
            if (!none && !s.canOff(k)) {
                continue;
            }
            Now then = new Now(s);
            if (!none) {
                then.at[k] = -1;
                then.sink();
            }
            int[] rest = drawn(then.behind(1), days - 1);
            if (best == null || rest[0] < best[0]) {
                best = new int[days + 1];
                best[0] = rest[0];
                best[1] = none ? -1 : k;
                System.arraycopy(rest, 1, best, 2, days - 1);
            }
        }
        return best;
    }
}
