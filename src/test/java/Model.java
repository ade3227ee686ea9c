import java.util.ArrayList;
import java.util.HashSet;
import java.util.List;
import java.util.Random;
import java.util.Set;

/**
 * The document once more, in the slowest and plainest way (all WAYS one by one, all rows, all sets), so that
 * the program's quicker ways can be held against it.
 */
final class Model {
    int w;
    int h;
    int bear;
    int[] thick;
    int[] snow;
    int[] weak;
    final Set<Integer> cracks = new HashSet<>();
    int[] frosts;
    boolean[] shore;
    final List<int[]> shops = new ArrayList<>();
    int least;
    int apart;
    int share;
    int rent;
    final List<int[]> lanes = new ArrayList<>();
    boolean[] barred = new boolean[36];
    final List<int[]> acts = new ArrayList<>();

    /** Where all is behind some ACTS. */
    static final class State {
        int[] thick;
        int[] snow;
        int[] at;
        int[] weight;
        int[] stove;
        int day;
        int paid;

        State copy() {
            State s = new State();
            s.thick = thick.clone();
            s.snow = snow.clone();
            s.at = at.clone();
            s.weight = weight.clone();
            s.stove = stove.clone();
            s.day = day;
            s.paid = paid;
            return s;
        }
    }

    int cells() {
        return w * h;
    }

    int steps(int a, int b) {
        return Math.abs(a % w - b % w) + Math.abs(a / w - b / w);
    }

    boolean near(int a, int b) {
        return steps(a, b) == 1 && !cracks.contains(a * 100 + b);
    }

    // ---- STATES

    State first() {
        State s = new State();
        s.thick = thick.clone();
        s.snow = snow.clone();
        s.at = new int[shops.size()];
        s.weight = new int[shops.size()];
        s.stove = new int[shops.size()];
        for (int k = 0; k < shops.size(); k++) {
            s.at[k] = shops.get(k)[0];
            s.weight[k] = shops.get(k)[1];
            s.stove[k] = shops.get(k)[2];
        }
        fall(s);
        return s;
    }

    int bears(State s, int c) {
        return s.thick[c] * s.thick[c] / bear;
    }

    int load(State s, int c, int without) {
        int sum = 0;
        for (int k = 0; k < s.at.length; k++) {
            if (k != without && s.at[k] >= 0) {
                if (s.at[k] == c) {
                    sum += s.weight[k];
                } else if (near(s.at[k], c)) {
                    sum += s.weight[k] * share / 10;
                }
            }
        }
        return sum;
    }

    boolean someoneFalls(State s) {
        for (int k = 0; k < s.at.length; k++) {
            if (s.at[k] >= 0 && load(s, s.at[k], -1) > bears(s, s.at[k])) {
                return true;
            }
        }
        return false;
    }

    void fall(State s) {
        boolean again = true;
        while (again) {
            again = false;
            for (int k = 0; k < s.at.length && !again; k++) {
                if (s.at[k] >= 0 && load(s, s.at[k], -1) > bears(s, s.at[k])) {
                    s.thick[s.at[k]] = 0;
                    s.at[k] = -2;
                    again = true;
                }
            }
        }
    }

    int frost(State s) {
        return frosts[s.day % frosts.length];
    }

    void day(State s, int f) {
        int[] after = new int[cells()];
        for (int c = 0; c < cells(); c++) {
            int t = s.thick[c] + (f > 0 ? Math.max(f - s.snow[c], 0) : f);
            for (int k = 0; k < s.at.length; k++) {
                if (s.at[k] == c) {
                    t -= s.stove[k];
                } else if (s.at[k] >= 0 && near(s.at[k], c)) {
                    t -= s.stove[k] / 2;
                }
            }
            after[c] = Math.min(99, Math.max(0, t));
        }
        s.thick = after;
        s.day++;
        s.paid += dues(s, null);
        fall(s);
    }

    int dues(State s, boolean[] where) {
        int sum = 0;
        for (int a : s.at) {
            if (a >= 0 && (where == null || where[a])) {
                sum += rent * s.thick[a] / 10;
            }
        }
        return sum;
    }

    boolean act(State s, int[] act) {
        switch (act[0]) {
            case 0:
                day(s, frost(s));
                return true;
            case 1:
                if (!canMove(s, act[1], act[2])) {
                    return false;
                }
                s.at[act[1]] = act[2];
                break;
            case 2:
                if (!canOff(s, act[1])) {
                    return false;
                }
                s.at[act[1]] = -1;
                break;
            case 3: {
                if (act[2] >= cells() || act[3] >= cells()) {
                    return false;
                }
                int[] path = shortest(ways(s, act[1], act[2], act[3], -1, true));
                if (path == null) {
                    return false;
                }
                for (int c : path) {
                    s.snow[c] = 0;
                }
                break;
            }
            default:
                if (act[1] >= cells()) {
                    return false;
                }
                s.snow[act[1]] = 0;
                break;
        }
        fall(s);
        return true;
    }

    boolean stands(State s, int k) {
        return k >= 0 && k < s.at.length && s.at[k] >= 0;
    }

    boolean canMove(State s, int k, int c) {
        if (!stands(s, k) || c >= cells() || c == s.at[k] || barred[c]) {
            return false;
        }
        for (int o = 0; o < s.at.length; o++) {
            if (o != k && s.at[o] >= 0 && s.stove[o] > 0 && s.stove[k] > 0 && steps(s.at[o], c) < apart) {
                return false;
            }
        }
        return !ways(s, s.weight[k], s.at[k], c, k, true).isEmpty();
    }

    boolean canOff(State s, int k) {
        if (!stands(s, k)) {
            return false;
        }
        boolean can = shore[s.at[k]];
        for (int c = 0; c < cells() && !can; c++) {
            can = shore[c] && c != s.at[k] && !ways(s, s.weight[k], s.at[k], c, k, true).isEmpty();
        }
        return can;
    }

    State state(int n) {
        State s = first();
        for (int i = 0; i < n; i++) {
            if (i >= acts.size() || !act(s, acts.get(i))) {
                return null;
            }
        }
        return s;
    }

    int stop() {
        State s = first();
        int i = 0;
        while (i < acts.size() && act(s, acts.get(i))) {
            i++;
        }
        return i;
    }

    int lost(State s) {
        int sum = 0;
        for (int k = 0; k < s.at.length; k++) {
            sum += s.at[k] == -2 ? shops.get(k)[3] : 0;
        }
        return sum;
    }

    int broken(State s) {
        int bits = 0;
        for (int k = 0; k < s.at.length; k++) {
            if (s.at[k] < 0) {
                continue;
            }
            boolean bad = barred[s.at[k]];
            for (int o = 0; o < s.at.length; o++) {
                bad |= o != k && s.at[o] >= 0 && s.stove[o] > 0 && s.stove[k] > 0
                    && steps(s.at[o], s.at[k]) < apart;
            }
            bits |= bad ? 1 << k : 0;
        }
        return bits;
    }

    boolean[] part(int c) {
        boolean[] in = new boolean[cells()];
        in[c] = true;
        for (int round = 0; round < 36; round++) {
            for (int a = 0; a < cells(); a++) {
                for (int b = 0; b < cells(); b++) {
                    in[b] |= in[a] && near(a, b);
                }
            }
        }
        return in;
    }

    int parts() {
        Set<Integer> leasts = new HashSet<>();
        for (int c = 0; c < cells(); c++) {
            boolean[] in = part(c);
            int l = 0;
            while (!in[l]) {
                l++;
            }
            leasts.add(l);
        }
        return leasts.size();
    }

    // ---- WAYS

    int room(State s, int c, int without) {
        for (int k = 0; k < s.at.length; k++) {
            if (k != without && s.at[k] == c) {
                return -1;
            }
        }
        return s.thick[c] < least ? -1 : bears(s, c) - load(s, c, without);
    }

    boolean against(int a, int b) {
        for (int[] l : lanes) {
            if (l[0] == b && l[1] == a) {
                return true;
            }
        }
        return false;
    }

    List<int[]> ways(State s, int load, int from, int to, int mover, boolean lawful) {
        List<int[]> found = new ArrayList<>();
        int[] room = new int[cells()];
        for (int c = 0; c < cells(); c++) {
            room[c] = room(s, c, mover);
        }
        if (from != to) {
            walk(room, load, to, new int[] {from}, lawful, found);
        }
        return found;
    }

    private void walk(int[] room, int load, int to, int[] sofar, boolean lawful, List<int[]> found) {
        int c = sofar[sofar.length - 1];
        if (c == to) {
            found.add(sofar);
            return;
        }
        next:
        for (int d = 0; d < cells(); d++) {
            if (steps(c, d) != 1 || room[d] < load || lawful && against(c, d)) {
                continue;
            }
            for (int e : sofar) {
                if (e == d) {
                    continue next;
                }
            }
            int[] longer = java.util.Arrays.copyOf(sofar, sofar.length + 1);
            longer[sofar.length] = d;
            walk(room, load, to, longer, lawful, found);
        }
    }

    static boolean before(int[] a, int[] b) {
        if (a.length != b.length) {
            return a.length < b.length;
        }
        for (int i = 0; i < a.length; i++) {
            if (a[i] != b[i]) {
                return a[i] < b[i];
            }
        }
        return false;
    }

    static int[] shortest(List<int[]> ways) {
        int[] best = null;
        for (int[] p : ways) {
            if (best == null || before(p, best)) {
                best = p;
            }
        }
        return best;
    }

    int leastRoom(State s, int[] path) {
        int l = Integer.MAX_VALUE;
        for (int i = 1; i < path.length; i++) {
            l = Math.min(l, room(s, path[i], -1));
        }
        return l;
    }

    int[] spare(State s, List<int[]> ways) {
        int[] best = null;
        for (int[] p : ways) {
            if (best == null || leastRoom(s, p) > leastRoom(s, best)
                || leastRoom(s, p) == leastRoom(s, best) && before(p, best)) {
                best = p;
            }
        }
        return best;
    }

    long chance(int[] path) {
        long parts = 10_000_000L;
        for (int i = 1; i < path.length; i++) {
            parts = parts / 10 * (10 - weak[path[i]]);
        }
        return parts;
    }

    int[] lucky(List<int[]> ways) {
        int[] best = null;
        for (int[] p : ways) {
            if (p.length <= 8 && (best == null || chance(p) > chance(best)
                || chance(p) == chance(best) && before(p, best))) {
                best = p;
            }
        }
        return best;
    }

    static boolean uses(int[] path, long cells) {
        for (int i = 1; i < path.length - 1; i++) {
            if ((cells >> path[i] & 1) != 0) {
                return true;
            }
        }
        return false;
    }

    int sawn(List<int[]> ways, int from, int to) {
        int best = -1;
        for (long set = 0; set < 1L << cells(); set++) {
            if ((set >> from & 1) != 0 || (set >> to & 1) != 0) {
                continue;
            }
            int many = Long.bitCount(set);
            if (best >= 0 && many >= best) {
                continue;
            }
            boolean all = true;
            for (int[] p : ways) {
                all &= uses(p, set);
                if (!all) {
                    break;
                }
            }
            if (all) {
                best = many;
            }
        }
        return best;
    }

    int struck(State s, int load, int from, int to) {
        int best = -1;
        for (int[] p : ways(s, load, from, to, -1, false)) {
            int many = 0;
            for (int i = 1; i < p.length; i++) {
                many += against(p[i - 1], p[i]) ? 1 : 0;
            }
            best = best < 0 ? many : Math.min(best, many);
        }
        return best;
    }

    int thicker(State s, int load, int from, int to) {
        for (int more = 0; more <= 99; more++) {
            State t = s.copy();
            for (int c = 0; c < cells(); c++) {
                t.thick[c] += more;
            }
            if (!ways(t, load, from, to, -1, true).isEmpty()) {
                return more;
            }
        }
        return -1;
    }

    // ---- DAYS

    int holds(State from, int k) {
        State s = from.copy();
        for (int d = 1; d <= 60; d++) {
            day(s, frost(s));
            if (s.at[k] < 0) {
                return d;
            }
        }
        return 61;
    }

    int[] fair(State from, int weight, int fw, int fh) {
        int[] best = null;
        for (int c = 0; c < cells(); c++) {
            State s = from.copy();
            int days = -1;
            while (days < 60 && block(s, c, weight, fw, fh)) {
                days++;
                day(s, frost(s));
            }
            if (days >= 0 && (best == null || days > best[1])) {
                best = new int[] {c, days};
            }
        }
        return best;
    }

    private boolean block(State s, int corner, int weight, int fw, int fh) {
        for (int r = corner / w; r < corner / w + fh; r++) {
            for (int q = corner % w; q < corner % w + fw; q++) {
                if (r >= h || q >= w) {
                    return false;
                }
                int c = r * w + q;
                for (int a : s.at) {
                    if (a == c) {
                        return false;
                    }
                }
                if (bears(s, c) < weight + load(s, c, -1)) {
                    return false;
                }
            }
        }
        return true;
    }

    /** The WORTH, then the row. */
    int[] drawn(State from, int days) {
        if (days == 0) {
            int sum = 0;
            for (int k = 0; k < from.at.length; k++) {
                sum += from.at[k] == -1 ? 0 : shops.get(k)[3];
            }
            return new int[] {sum};
        }
        int[] best = null;
        for (int i = 0; i <= from.at.length; i++) {
            int k = i == from.at.length ? -1 : i;
            if (k >= 0 && !canOff(from, k)) {
                continue;
            }
            State s = from.copy();
            if (k >= 0) {
                s.at[k] = -1;
                fall(s);
            }
            day(s, frost(s));
            int[] rest = drawn(s, days - 1);
            if (best == null || rest[0] < best[0]) {
                best = new int[days + 1];
                best[0] = rest[0];
                best[1] = k;
                System.arraycopy(rest, 1, best, 2, days - 1);
            }
        }
        return best;
    }

    int set(State from, int k) {
        int best = -1;
        int longest = -1;
        for (int c = 0; c < cells(); c++) {
            State s = from.copy();
            if (c != s.at[k]) {
                if (!act(s, new int[] {1, k, c})) {
                    continue;
                }
            }
            int days = s.at[k] < 0 ? 0 : holds(s, k);
            if (days > longest) {
                longest = days;
                best = c;
            }
        }
        return best;
    }

    int hearth(State from) {
        int best = -1;
        int most = 0;
        for (int k = 0; k < from.at.length; k++) {
            if (from.at[k] < 0) {
                continue;
            }
            State s = from.copy();
            s.stove[k] = 0;
            int many = 0;
            for (int o = 0; o < from.at.length; o++) {
                many += o != k && from.at[o] >= 0 && holds(s, o) > holds(from, o) ? 1 : 0;
            }
            if (many > most) {
                most = many;
                best = k;
            }
        }
        return best;
    }

    State daysOn(State from, int days) {
        State s = from.copy();
        for (int d = 0; d < days; d++) {
            day(s, frost(s));
        }
        return s;
    }

    long branches(State from, int load, int a, int b, int day) {
        int[] p = shortest(ways(daysOn(from, day), load, a, b, -1, true));
        if (p == null) {
            return -1;
        }
        long bits = 0;
        for (int c : p) {
            bits |= 1L << c;
        }
        return bits;
    }

    int firstDay(State from, int load, int a, int b, boolean aWay) {
        State s = from.copy();
        for (int d = 0; d <= 60; d++) {
            if (ways(s, load, a, b, -1, true).isEmpty() != aWay) {
                return d;
            }
            day(s, frost(s));
        }
        return -1;
    }

    int gulls(State from) {
        for (int d = 1; d <= 60; d++) {
            State s = daysOn(from, d);
            for (int c = 0; c < cells(); c++) {
                if (s.thick[c] == 0 && from.thick[c] > 0) {
                    return c;
                }
            }
        }
        return -1;
    }

    int meet(State s, int[] loads, int[] p, int[] q, int later) {
        for (int t = 0; t < 100; t++) {
            int u = t - later;
            if (t < p.length && u >= 0 && u < q.length) {
                int a = p[t];
                int b = q[u];
                if (a == b) {
                    return t;
                }
                if (near(a, b) && (bears(s, a) < loads[0] + load(s, a, -1) + loads[1] * share / 10
                    || bears(s, b) < loads[1] + load(s, b, -1) + loads[0] * share / 10)) {
                    return t;
                }
            }
        }
        return -1;
    }

    State winter(State from, int seed, int days) {
        State s = from.copy();
        int x = seed;
        for (int d = 0; d < days; d++) {
            x = x * 1103515245 + 12345;
            day(s, frost(s) + (x >>> 16) % 7 - 3);
        }
        return s;
    }

    int swept(State from, int k) {
        int best = -1;
        int longest = -1;
        for (int c = 0; c < cells(); c++) {
            State s = from.copy();
            s.snow[c] = 0;
            if (holds(s, k) > longest) {
                longest = holds(s, k);
                best = c;
            }
        }
        return best;
    }

    int heavier(State from, int k) {
        int best = -1;
        for (int more = 0; more <= 99; more++) {
            State s = from.copy();
            s.weight[k] += more;
            if (!someoneFalls(s)) {
                best = more;
            }
        }
        return best;
    }

    int latest(State from, int k) {
        int best = -1;
        for (int d = 0; d <= 60; d++) {
            if (canOff(daysOn(from, d), k)) {
                best = d;
            }
        }
        return best;
    }

    int cold(State from, int k, int days) {
        for (int f = -20; f <= 20; f++) {
            State s = from.copy();
            for (int d = 0; d < days; d++) {
                day(s, f);
            }
            if (s.at[k] >= 0) {
                return f;
            }
        }
        return -100;
    }

    int spread(State s) {
        int best = -1;
        for (int k = 0; k < s.at.length; k++) {
            for (int o = 0; o < s.at.length; o++) {
                if (k != o && s.at[k] >= 0 && s.at[o] >= 0 && s.stove[k] > 0 && s.stove[o] > 0) {
                    best = best < 0 ? steps(s.at[k], s.at[o]) : Math.min(best, steps(s.at[k], s.at[o]));
                }
            }
        }
        return best;
    }

    // ---- texts of a made-up LAKE, LAW, PLAN

    static Model random(Random r, int most) {
        Model m = new Model();
        do {
            m.w = 2 + r.nextInt(5);
            m.h = 2 + r.nextInt(5);
        } while (m.w * m.h > most);
        int n = m.cells();
        m.bear = r.nextInt(3) == 0 ? 1 + r.nextInt(99) : 5 + r.nextInt(15);
        m.thick = new int[n];
        m.snow = new int[n];
        m.weak = new int[n];
        m.shore = new boolean[n];
        int base = 10 + r.nextInt(50);
        for (int c = 0; c < n; c++) {
            m.thick[c] = r.nextInt(6) == 0 ? r.nextInt(100) : Math.min(99, base + r.nextInt(9));
            m.snow[c] = r.nextInt(3) == 0 ? r.nextInt(10) : 0;
            m.weak[c] = r.nextInt(3) == 0 ? r.nextInt(10) : 0;
            m.shore[c] = r.nextInt(4) == 0;
        }
        for (int k = r.nextInt(n); k > 0; k--) {
            int a = r.nextInt(n);
            int b = r.nextInt(n);
            if (m.steps(a, b) == 1) {
                m.cracks.add(a * 100 + b);
                m.cracks.add(b * 100 + a);
            }
        }
        m.frosts = new int[1 + r.nextInt(12)];
        int warm = r.nextInt(9) - 6;
        for (int i = 0; i < m.frosts.length; i++) {
            m.frosts[i] = Math.max(-20, Math.min(20, r.nextInt(9) == 0 ? r.nextInt(41) - 20 : warm + r.nextInt(7)));
        }
        boolean[] full = new boolean[n];
        for (int k = r.nextInt(7); k > 0; k--) {
            int c = r.nextInt(n);
            if (!full[c]) {
                full[c] = true;
                m.shops.add(new int[] {c, 1 + r.nextInt(r.nextInt(3) == 0 ? 99 : 30), r.nextInt(10), r.nextInt(100)});
            }
        }
        m.law(r);
        m.plan(r);
        return m;
    }

    /** A small LAKE full of SHOPS that can go off on some DAYS and not on others. */
    static Model crowded(Random r) {
        Model m = new Model();
        m.w = 2 + r.nextInt(2);
        m.h = 2 + r.nextInt(2);
        int n = m.cells();
        m.bear = 10;
        m.thick = new int[n];
        m.snow = new int[n];
        m.weak = new int[n];
        m.shore = new boolean[n];
        for (int c = 0; c < n; c++) {
            m.thick[c] = 8 + r.nextInt(14);
            m.snow[c] = r.nextInt(2) * r.nextInt(6);
        }
        m.shore[r.nextInt(n)] = true;
        m.frosts = new int[1 + r.nextInt(5)];
        for (int i = 0; i < m.frosts.length; i++) {
            m.frosts[i] = r.nextInt(12) - 4;
        }
        for (int c = 0; c < n && m.shops.size() < 6; c++) {
            if (r.nextInt(5) < 3) {
                int most = Math.max(1, m.thick[c] * m.thick[c] / 10);
                m.shops.add(r.nextInt(m.shops.size() + 1), new int[] {c, 1 + r.nextInt(most), r.nextInt(4), r.nextInt(10)});
            }
        }
        m.law(r);
        m.share = r.nextInt(4);
        m.least = 0;
        return m;
    }

    private void law(Random r) {
        least = r.nextInt(2) * r.nextInt(30);
        apart = r.nextInt(2) * r.nextInt(5);
        share = r.nextInt(11);
        rent = r.nextInt(100);
        for (int k = r.nextInt(13); k > 0; k--) {
            int a = r.nextInt(cells());
            int b = r.nextInt(cells());
            if (steps(a, b) == 1) {
                lanes.add(new int[] {a, b});
            }
        }
        for (int k = r.nextInt(4); k > 0; k--) {
            barred[r.nextInt(36)] = true;
        }
    }

    private void plan(Random r) {
        for (int k = r.nextInt(12); k > 0; k--) {
            int sort = r.nextInt(5);
            int a = r.nextInt(cells());
            int b = (a + 1 + r.nextInt(cells() - 1)) % cells();
            int shop = r.nextInt(Math.max(1, shops.size()));
            switch (sort) {
                case 0: acts.add(new int[] {0, -1, -1, -1}); break;
                case 1: acts.add(new int[] {1, shop, a, -1}); break;
                case 2: acts.add(new int[] {2, shop, -1, -1}); break;
                case 3: acts.add(new int[] {3, 1 + r.nextInt(20), a, b}); break;
                default: acts.add(new int[] {4, a, -1, -1}); break;
            }
        }
    }

    String lakeText() {
        StringBuilder t = new StringBuilder("size " + w + " " + h + ";bear " + bear + ";all " + thick[0] + ";frost");
        for (int f : frosts) {
            t.append(' ').append(f);
        }
        t.append(';');
        for (int c = 0; c < cells(); c++) {
            t.append(thick[c] == thick[0] ? "" : "ice" + c + " " + thick[c] + ";");
            t.append(snow[c] == 0 ? "" : "snow" + c + " " + snow[c] + ";");
            t.append(weak[c] == 0 ? "" : "weak" + c + " " + weak[c] + ";");
            t.append(shore[c] ? "shore" + c + ";" : "");
        }
        for (int k : cracks) {
            t.append(k / 100 < k % 100 ? "crack" + k / 100 + " " + k % 100 + ";" : "");
        }
        for (int[] s : shops) {
            t.append("shop ").append(s[0]).append(' ').append(s[1]).append(' ').append(s[2]).append(' ').append(s[3])
                .append(";\n");
        }
        return t.toString();
    }

    String lawText() {
        StringBuilder t = new StringBuilder("least " + least + ";apart " + apart + ";share " + share + ";rent " + rent
            + ";\n");
        for (int[] l : lanes) {
            t.append("lane ").append(l[0]).append(' ').append(l[1]).append(';');
        }
        for (int c = 0; c < 36; c++) {
            t.append(barred[c] ? "bar " + c + " ;" : "");
        }
        return t.toString();
    }

    String planText() {
        String[] words = {"day", "move", "off", "go", "sweep"};
        StringBuilder t = new StringBuilder();
        for (int[] a : acts) {
            t.append(words[a[0]]);
            for (int i = 1; i < 4; i++) {
                t.append(a[i] < 0 ? "" : " " + a[i]);
            }
            t.append("; ");
        }
        return t.toString();
    }
}
