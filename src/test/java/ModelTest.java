import java.util.List;
import java.util.Random;

/** Made-up streets, asked of the program and of the Model. */
public final class ModelTest {
    private static final Check CHECK = new Check();
    private static Model m;
    private static IceStreet x;
    private static String run;

    public static void main(String[] args) {
        int rounds = args.length > 0 ? Integer.parseInt(args[0]) : 250;
        for (int seed = 0; seed < rounds; seed++) {
            Random r = new Random(seed);
            m = Model.random(r, seed % 5 == 0 ? 16 : 12);
            if (m.lakeText().length() > 600) {
                continue;
            }
            run = "seed " + seed + ": ";
            x = Check.street(m.lakeText(), m.lawText(), m.planText());
            askTold();
            int stop = m.stop();
            due("stop", x.stop(0, 0, 0), stop);
            due("state behind stop", x.state(0, 0, 0, stop + 1, 0), -100);
            int n = r.nextInt(stop + 1);
            Model.State s = m.state(n);
            askState(s, n);
            for (int k = 0; k < 4; k++) {
                int a = r.nextInt(m.cells());
                int b = (a + 1 + r.nextInt(m.cells() - 1)) % m.cells();
                askWays(s, n, r.nextInt(4) == 0 ? 1 + r.nextInt(999) : 1 + r.nextInt(40), a, b);
                askMeet(s, n, r);
            }
            for (int k = 0; k < m.shops.size(); k++) {
                askShop(s, n, k, r);
            }
            askDays(s, n, r);
        }
        for (int seed = 0; seed < 20 * rounds; seed++) {
            Random r = new Random(~seed);
            m = Model.crowded(r);
            run = "crowd " + seed + ": ";
            x = Check.street(m.lakeText(), m.lawText(), "");
            askDrawn(m.state(0), 0, 2 + r.nextInt(m.shops.size() > 4 ? 3 : 5));
        }
        CHECK.finish();
    }

    private static void due(String call, long got, long want) {
        CHECK.due(run + call, got, want);
    }

    private static void askTold() {
        due("w", x.lake(0, 0), m.w);
        due("h", x.lake(0, 1), m.h);
        due("bear", x.lake(0, 2), m.bear);
        due("frosts", x.lake(0, 3), m.frosts.length);
        due("shops", x.lake(0, 4), m.shops.size());
        for (int i = 0; i < m.frosts.length; i++) {
            due("frost " + i, x.lake(0, 20 + i), m.frosts[i]);
        }
        for (int c = 0; c < m.cells(); c++) {
            int cracks = 0;
            for (int d = 0; d < m.cells(); d++) {
                cracks += m.cracks.contains(c * 100 + d) ? 1 : 0;
            }
            due("thick " + c, x.cell(0, c, 0), m.thick[c]);
            due("snow " + c, x.cell(0, c, 1), m.snow[c]);
            due("weak " + c, x.cell(0, c, 2), m.weak[c]);
            due("shore " + c, x.cell(0, c, 3), m.shore[c] ? 1 : 0);
            due("cracks " + c, x.cell(0, c, 4), cracks);
        }
        for (int k = 0; k < m.shops.size(); k++) {
            for (int what = 0; what < 4; what++) {
                due("shop " + k + " " + what, x.shop(0, k, what), m.shops.get(k)[what]);
            }
        }
        due("lanes", x.law(0, 4), m.lanes.size());
        for (int k = 0; k < m.lanes.size(); k++) {
            due("lane from " + k, x.law(0, 20 + k), m.lanes.get(k)[0]);
            due("lane to " + k, x.law(0, 40 + k), m.lanes.get(k)[1]);
        }
        for (int c = 0; c < 36; c++) {
            due("barred " + c, x.law(0, 60 + c), m.barred[c] ? 1 : 0);
        }
        due("acts", x.act(0, -1, 0), m.acts.size());
        for (int i = 0; i < m.acts.size(); i++) {
            for (int what = 0; what < 4; what++) {
                due("act " + i + " " + what, x.act(0, i, what), m.acts.get(i)[what]);
            }
        }
    }

    private static void askState(Model.State s, int n) {
        due("day", x.state(0, 0, 0, n, 0), s.day);
        due("paid", x.state(0, 0, 0, n, 1), s.paid);
        due("lost", x.state(0, 0, 0, n, 2), m.lost(s));
        due("broken", x.state(0, 0, 0, n, 3), m.broken(s));
        due("parts", x.state(0, 0, 0, n, 4), m.parts());
        due("spread", x.spread(0, 0, 0, n), m.spread(s));
        for (int k = 0; k < s.at.length; k++) {
            due("at " + k, x.state(0, 0, 0, n, 10 + k), s.at[k]);
        }
        for (int c = 0; c < m.cells(); c++) {
            due("ice " + c, x.ice(0, 0, 0, n, c, 0), s.thick[c]);
            due("snow now " + c, x.ice(0, 0, 0, n, c, 1), s.snow[c]);
            due("bears " + c, x.ice(0, 0, 0, n, c, 2), m.bears(s, c));
            due("load " + c, x.ice(0, 0, 0, n, c, 3), m.load(s, c, -1));
            boolean[] part = m.part(c);
            due("part " + c, x.part(0, 0, 0, n, c, false), bits(part));
            due("dues " + c, x.part(0, 0, 0, n, c, true), m.dues(s, part));
        }
    }

    private static long bits(boolean[] in) {
        long bits = 0;
        for (int c = 0; c < in.length; c++) {
            bits |= in[c] ? 1L << c : 0;
        }
        return bits;
    }

    private static void askWays(Model.State s, int n, int load, int a, int b) {
        String trip = load + " from " + a + " to " + b;
        List<int[]> ways = m.ways(s, load, a, b, -1, true);
        int[] spare = m.spare(s, ways);
        int[] lucky = m.lucky(ways);
        duePath("short " + trip, n, load, a, b, 0, Model.shortest(ways), 0);
        duePath("spare " + trip, n, load, a, b, 1, spare, spare == null ? 0 : m.leastRoom(s, spare) - load);
        duePath("lucky " + trip, n, load, a, b, 2, lucky, 0);
        due("luck " + trip, x.luck(0, 0, 0, n, load, a, b), lucky == null ? -1 : m.chance(lucky));
        int[] widest = m.spare(s, m.ways(s, 1, a, b, -1, true));
        due("most " + trip, x.most(0, 0, 0, n, a, b), widest == null ? -1 : Math.min(999, m.leastRoom(s, widest)));
        due("sawn " + trip, x.sawn(0, 0, 0, n, load, a, b), m.sawn(ways, a, b));
        due("struck " + trip, x.lacks(0, 0, 0, n, load, a, b, 0), m.struck(s, load, a, b));
        due("thicker " + trip, x.lacks(0, 0, 0, n, load, a, b, 1), m.thicker(s, load, a, b));
        due("opens " + trip, x.lacks(0, 0, 0, n, load, a, b, 2), m.firstDay(s, load, a, b, true));
        due("thaw " + trip, x.thaw(0, 0, 0, n, load, a, b), m.firstDay(s, load, a, b, false));
        long needed = ways.isEmpty() ? -1 : 0;
        long reach = 0;
        for (int c = 0; c < m.cells(); c++) {
            boolean all = !ways.isEmpty() && c != a && c != b;
            for (int[] p : ways) {
                all &= Model.uses(p, 1L << c);
            }
            needed |= all ? 1L << c : 0;
            reach |= m.ways(s, load, a, c, -1, true).isEmpty() ? 0 : 1L << c;
        }
        due("needs " + trip, x.needs(0, 0, 0, n, load, a, b), needed);
        due("from " + trip, x.from(0, 0, 0, n, load, a), reach);
        askBranches(s, n, load, a, b);
    }

    private static void askBranches(Model.State s, int n, int load, int a, int b) {
        String trip = load + " from " + a + " to " + b;
        long[] all = new long[31];
        for (int d = 0; d <= 30; d++) {
            all[d] = m.branches(s, load, a, b, d);
        }
        for (int d = 0; d <= 30; d += 6) {
            due("branches " + trip + " on " + d, x.branches(0, 0, 0, n, load, a, b, d), all[d]);
            int first = 0;
            while (all[first] != all[d]) {
                first++;
            }
            due("old " + trip + " as on " + d, x.old(0, 0, 0, n, load, a, b, all[d]), all[d] < 0 ? -1 : first);
        }
    }

    private static void duePath(String call, int n, int load, int a, int b, int sort, int[] path, int spare) {
        due(call + " length", x.way(0, 0, 0, n, load, a, b, sort, 0), path == null ? -1 : path.length);
        due(call + " spare", x.way(0, 0, 0, n, load, a, b, sort, 1), path == null ? -1 : spare);
        for (int i = 0; path != null && i < path.length; i++) {
            due(call + " cell " + i, x.way(0, 0, 0, n, load, a, b, sort, 10 + i), path[i]);
        }
        due(call + " end", x.way(0, 0, 0, n, load, a, b, sort, path == null ? 10 : 10 + path.length), -1);
    }

    private static void askMeet(Model.State s, int n, Random r) {
        int[] loads = {1 + r.nextInt(20), 1 + r.nextInt(20)};
        int[] ends = new int[4];
        for (int i = 0; i < 4; i++) {
            ends[i] = r.nextInt(m.cells());
        }
        int[] p = Model.shortest(m.ways(s, loads[0], ends[0], ends[1], -1, true));
        int[] q = Model.shortest(m.ways(s, loads[1], ends[2], ends[3], -1, true));
        boolean both = p != null && q != null;
        int way = 100 * ends[1] + ends[0];
        int other = 100 * ends[3] + ends[2];
        int pause = -1;
        for (int later = 40; later >= 0; later--) {
            int met = both ? m.meet(s, loads, p, q, later) : -1;
            pause = both && met < 0 ? later : pause;
            if (later < 6) {
                due("meet " + way + " " + other + " " + later,
                    x.meet(0, 0, 0, n, loads[1] * 1000 + loads[0], way, other, later, false), met);
            }
        }
        due("pause " + way + " " + other, x.meet(0, 0, 0, n, loads[1] * 1000 + loads[0], way, other, -7, true), pause);
    }

    private static void askShop(Model.State s, int n, int k, Random r) {
        boolean up = m.stands(s, k);
        int days = 1 + r.nextInt(60);
        due("holds " + k, x.holds(0, 0, 0, n, k), up ? m.holds(s, k) : -1);
        due("set " + k, x.set(0, 0, 0, n, k), up ? m.set(s, k) : -1);
        due("swept " + k, x.shopping(0, 0, 0, n, k, 0), up ? m.swept(s, k) : -1);
        due("heavier " + k, x.shopping(0, 0, 0, n, k, 1), up ? m.heavier(s, k) : -1);
        due("latest " + k, x.shopping(0, 0, 0, n, k, 2), up ? m.latest(s, k) : -1);
        due("cold " + k + " " + days, x.cold(0, 0, 0, n, k, days), up ? m.cold(s, k, days) : -100);
        int seed = r.nextInt();
        int w = 1 + r.nextInt(9);
        int fallen = up ? 0 : -1;
        for (int i = 0; up && i < w; i++) {
            fallen += m.winter(s, seed + i, days).at[k] < 0 ? 1 : 0;
        }
        due("fallen " + k, x.fallen(0, 0, 0, n, seed, w, days, k), fallen);
    }

    private static void askDrawn(Model.State s, int n, int days) {
        int[] drawn = m.drawn(s, days);
        due("drawn", x.drawn(0, 0, 0, n, days, 0), drawn[0]);
        for (int d = 0; d < days; d++) {
            due("drawn " + d, x.drawn(0, 0, 0, n, days, 10 + d), drawn[1 + d]);
        }
    }

    private static void askDays(Model.State s, int n, Random r) {
        due("hearth", x.hearth(0, 0, 0, n), m.hearth(s));
        due("gulls", x.gulls(0, 0, 0, n), m.gulls(s));
        for (int k = 0; k < 4; k++) {
            int weight = 1 + r.nextInt(60);
            int w = 1 + r.nextInt(3);
            int h = 1 + r.nextInt(3);
            int[] fair = m.fair(s, weight, w, h);
            due("fair " + weight, x.fair(0, 0, 0, n, weight, w, h, false), fair == null ? -1 : fair[0]);
            due("fair days " + weight, x.fair(0, 0, 0, n, weight, w, h, true), fair == null ? -1 : fair[1]);
        }
        askDrawn(s, n, 1 + r.nextInt(4));
        int seed = r.nextInt();
        int long_ = r.nextInt(61);
        Model.State win = m.winter(s, seed, long_);
        int standing = 0;
        for (int a : win.at) {
            standing += a >= 0 ? 1 : 0;
        }
        due("winter lost", x.winter(0, 0, 0, n, seed, long_, 0), m.lost(win));
        due("winter paid", x.winter(0, 0, 0, n, seed, long_, 1), win.paid);
        due("winter standing", x.winter(0, 0, 0, n, seed, long_, 2), standing);
        for (int c = 0; c < m.cells(); c++) {
            due("winter thick " + c, x.winter(0, 0, 0, n, seed, long_, 100 + c), win.thick[c]);
        }
    }
}
