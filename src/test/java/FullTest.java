import java.util.ArrayList;
import java.util.Collections;
import java.util.List;
import java.util.Random;

/** Made-up streets on LAKES of up to 36 CELLS, two LAKES, LAWS and PLANS at once, asked of the program and of FullModel. */
public final class FullTest {
    private static final Check CHECK = new Check();

    private final Random r;
    private final String run;
    private final String[] lakes = new String[2];
    private final String[] laws = new String[2];
    private final String[] plans = new String[3];
    private IceStreet x;
    private FullModel m;
    private FullModel.Now s;
    private int lake;
    private int law;
    private int plan;
    private int n;

    private FullTest(int seed) {
        r = new Random(seed);
        run = "seed " + seed + ": ";
    }

    public static void main(String[] args) {
        int rounds = args.length > 0 ? Integer.parseInt(args[0]) : 150;
        for (int seed = 0; seed < rounds; seed++) {
            new FullTest(seed).all();
        }
        CHECK.finish();
    }

    private void due(String call, long got, long want) {
        CHECK.due(run + call, got, want);
    }

    private void all() {
        for (int i = 0; i < 2; i++) {
            lakes[i] = lakeText();
            laws[i] = lawText();
        }
        for (int i = 0; i < 3; i++) {
            plans[i] = planText();
        }
        for (int k = 0; k < 3; k++) {
            lake = r.nextInt(2);
            law = r.nextInt(2);
            plan = r.nextInt(4) - 1;
            begin();
            askDays();
            for (int i = 0; i < 3; i++) {
                askWay();
            }
            for (int shop = 0; shop < m.shops.length; shop++) {
                begin();
                askShop(shop);
            }
        }
    }

    /** Tells all anew, since an object is good for 512 calls. */
    private void begin() {
        x = new IceStreet();
        for (int i = 0; i < 3; i++) {
            if (i < 2) {
                due("LAKE '" + lakes[i] + "'", Check.tell(x, 0, -1, lakes[i]), i);
                due("LAW '" + laws[i] + "'", Check.tell(x, 1, -1, laws[i]), i);
            }
            due("PLAN '" + plans[i] + "'", Check.tell(x, 2, -1, plans[i]), i);
        }
        m = new FullModel(new Texts(0, lakes[lake]), new Texts(1, laws[law]), new Texts(2, plan < 0 ? "" : plans[plan]));
        s = m.new Now();
        int stop = 0;
        FullModel.Now then = m.new Now();
        while (stop < m.acts.length && then.act(m.acts[stop])) {
            stop++;
        }
        due("stop", x.stop(lake, law, plan), plan < 0 ? -1 : stop);
        n = plan < 0 ? 0 : r.nextInt(stop + 1);
        for (int i = 0; i < n; i++) {
            s.act(m.acts[i]);
        }
        due("beyond stop", x.state(lake, law, plan, stop + 1, 0), -100);
    }

    private String lakeText() {
        int w = 3 + r.nextInt(4);
        int h = w < 5 ? 6 : 4 + r.nextInt(3);
        int cells = w * h;
        int base = 12 + r.nextInt(40);
        StringBuilder t = new StringBuilder("size " + w + " " + h + ";all " + base + ";bear " + (4 + r.nextInt(16)) + ";frost");
        int warm = r.nextInt(8) - 5;
        for (int k = 1 + r.nextInt(12); k > 0; k--) {
            t.append(' ').append(warm + r.nextInt(7) - 2);
        }
        t.append(";shore");
        for (int k = 1 + r.nextInt(4); k > 0; k--) {
            t.append(' ').append(r.nextInt(cells));
        }
        t.append(';');
        List<Integer> places = new ArrayList<>();
        for (int c = 0; c < cells; c++) {
            places.add(c);
        }
        Collections.shuffle(places, r);
        for (int k = r.nextInt(7); k > 0; k--) {
            t.append("shop " + places.get(k) + " " + (1 + r.nextInt(35)) + " " + r.nextInt(10) + " " + r.nextInt(100) + ";");
        }
        int most = 250 + r.nextInt(340);
        while (t.length() < most) {
            int c = r.nextInt(cells);
            switch (r.nextInt(4)) {
                case 0: t.append("ice " + c + " " + (r.nextInt(3) == 0 ? r.nextInt(99) : base / 2 + r.nextInt(20)) + ";"); break;
                case 1: t.append("snow " + c + " " + r.nextInt(10) + ";"); break;
                case 2: t.append("weak " + c + " " + r.nextInt(10) + ";"); break;
                default: t.append(c % w > 0 && r.nextBoolean() ? "crack " + c + " " + (c - 1) + ";"
                    : c >= w ? "crack " + (c - w) + " " + c + ";" : ""); break;
            }
        }
        return t.toString();
    }

    private String lawText() {
        StringBuilder t = new StringBuilder("share " + r.nextInt(11) + ";apart " + r.nextInt(4) + ";least " + r.nextInt(20)
            + ";rent " + r.nextInt(100) + ";");
        for (int k = r.nextInt(13); k > 0; k--) {
            int a = r.nextInt(36);
            int[] steps = {1, -1, 3, -3, 4, -4, 5, -5, 6, -6};
            int b = a + steps[r.nextInt(10)];
            t.append(b >= 0 && b < 36 ? "lane " + a + " " + b + ";" : "");
        }
        for (int k = r.nextInt(4); k > 0; k--) {
            t.append("bar " + r.nextInt(36) + " " + r.nextInt(36) + ";");
        }
        return t.toString();
    }

    private String planText() {
        StringBuilder t = new StringBuilder();
        for (int k = r.nextInt(31); k > 0; k--) {
            int a = r.nextInt(18);
            int b = (a + 1 + r.nextInt(17)) % 18;
            switch (r.nextInt(8)) {
                case 0: t.append("move " + r.nextInt(3) + " " + a + ";"); break;
                case 1: t.append(r.nextInt(4) == 0 ? "off " + r.nextInt(4) + ";" : "day;"); break;
                case 2: t.append("go " + (1 + r.nextInt(9)) + " " + a + " " + b + ";"); break;
                case 3: t.append("sweep " + a + ";"); break;
                default: t.append("day;"); break;
            }
        }
        return t.toString();
    }

    private static long bits(List<Integer> row) {
        long bits = 0;
        for (int c : row) {
            bits |= 1L << c;
        }
        return bits;
    }

    private void askDays() {
        due("DAY", x.state(lake, law, plan, n, 0), s.day);
        due("PAID", x.state(lake, law, plan, n, 1), s.paid);
        for (int k = 0; k < m.shops.length; k++) {
            due("where " + k + " is", x.state(lake, law, plan, n, 10 + k), s.at[k]);
        }
        for (int c = 0; c < m.w * m.h; c++) {
            due("THICK " + c, x.ice(lake, law, plan, n, c, 0), s.ice[c]);
            due("SNOW " + c, x.ice(lake, law, plan, n, c, 1), s.white[c]);
            due("LOAD " + c, x.ice(lake, law, plan, n, c, 3), s.load(c, -1));
        }
        askBlocks();
        int days = 1 + r.nextInt(3);
        int[] drawn = m.drawn(s, days);
        due("DRAWN " + days, x.drawn(lake, law, plan, n, days, 0), drawn[0]);
        for (int d = 0; d < days; d++) {
            due("DRAWN on " + d, x.drawn(lake, law, plan, n, days, 10 + d), drawn[1 + d]);
        }
        askHearth();
        askGulls();
        int seed = r.nextInt();
        FullModel.Now then = s.winter(seed, 60);
        due("WINTERS, PAID", x.winter(lake, law, plan, n, seed, 60, 1), then.paid);
        for (int c = 0; c < m.w * m.h; c++) {
            due("WINTERS, THICK " + c, x.winter(lake, law, plan, n, seed, 60, 100 + c), then.ice[c]);
        }
    }

    private void askBlocks() {
        int weight = 1 + r.nextInt(50);
        int fw = 1 + r.nextInt(3);
        int fh = 1 + r.nextInt(3);
        int best = -1;
        int longest = -1;
        for (int c = 0; c < m.w * m.h; c++) {
            if (c % m.w + fw <= m.w && c / m.w + fh <= m.h) {
                int days = -1;
                while (days < 60 && isFirm(s.behind(days + 1), c, weight, fw, fh)) {
                    days++;
                }
                if (days > longest) {
                    longest = days;
                    best = c;
                }
            }
        }
        due("FAIR", x.fair(lake, law, plan, n, weight, fw, fh, false), best);
        due("FAIR, DAYS", x.fair(lake, law, plan, n, weight, fw, fh, true), longest);
    }

    private boolean isFirm(FullModel.Now then, int corner, int weight, int fw, int fh) {
        for (int i = 0; i < fw * fh; i++) {
            int c = corner + i % fw + i / fw * m.w;
            if (then.shopAt(c) >= 0 || then.bears(c) < weight + then.load(c, -1)) {
                return false;
            }
        }
        return true;
    }

    private void askHearth() {
        int worst = -1;
        int most = 0;
        for (int k = 0; k < m.shops.length; k++) {
            int longer = 0;
            FullModel.Now cold = m.new Now(s);
            cold.stove[k] = 0;
            for (int o = 0; o < m.shops.length && s.stands(k); o++) {
                longer += o != k && s.stands(o) && cold.holds(o) > s.holds(o) ? 1 : 0;
            }
            if (longer > most) {
                most = longer;
                worst = k;
            }
        }
        due("HEARTH", x.hearth(lake, law, plan, n), worst);
    }

    private void askGulls() {
        int first = -1;
        for (int d = 1; d <= 60 && first < 0; d++) {
            FullModel.Now then = s.behind(d);
            for (int c = m.w * m.h - 1; c >= 0; c--) {
                first = s.ice[c] > 0 && then.ice[c] == 0 ? c : first;
            }
        }
        due("GULLS", x.gulls(lake, law, plan, n), first);
    }

    private void askWay() {
        int a = r.nextInt(m.w * m.h);
        int b = (a + 1 + r.nextInt(m.w * m.h - 1)) % (m.w * m.h);
        int[] greatest = {20, 20, 20, 200, 999};
        int load = 1 + r.nextInt(greatest[r.nextInt(5)]);
        String trip = "of " + load + " from " + a + " to " + b;
        int more = m.mostMore(s, load, a, b);
        int most = m.mostMore(s, 1, a, b);
        List<Integer> lucky = m.lucky(s, load, a, b);
        askRow("SHORT " + trip, load, a, b, 0, s.shortWay(load, a, b), 0);
        askRow("SPARE " + trip, load, a, b, 1, more < 0 ? null : s.shortWay(load + more, a, b), more);
        askRow("LUCKY " + trip, load, a, b, 2, lucky, 0);
        due("luck " + trip, x.luck(lake, law, plan, n, load, a, b), lucky == null ? -1 : m.chance(lucky));
        due("MOST " + trip, x.most(lake, law, plan, n, a, b), most < 0 ? -1 : Math.min(999, 1 + most));
        due("SAWN " + trip, x.sawn(lake, law, plan, n, load, a, b), m.sawn(s, load, a, b));
        due("STRUCK " + trip, x.lacks(lake, law, plan, n, load, a, b, 0), m.struck(s, load, a, b));
        int thicker = 0;
        while (thicker < 100 && m.grown(s.open(load, -1, thicker), a)[b] == null) {
            thicker++;
        }
        due("THICKER " + trip, x.lacks(lake, law, plan, n, load, a, b, 1), thicker > 99 ? -1 : thicker);
        boolean[] open = s.open(load, -1, 0);
        long from = 0;
        long needs = s.shortWay(load, a, b) == null ? -1 : 0;
        List<Integer>[] ways = m.grown(open, a);
        for (int c = 0; c < open.length; c++) {
            from |= ways[c] == null ? 0 : 1L << c;
            if (needs >= 0 && c != a && c != b && open[c]) {
                open[c] = false;
                needs |= m.grown(open, a)[b] == null ? 1L << c : 0;
                open[c] = true;
            }
        }
        due("FROM " + trip, x.from(lake, law, plan, n, load, a), from);
        due("NEEDS " + trip, x.needs(lake, law, plan, n, load, a, b), needs);
        askWayOnDays(trip, load, a, b);
        askMeet(load, a, b);
    }

    private void askRow(String call, int load, int a, int b, int sort, List<Integer> row, int more) {
        due(call + ", CELLS", x.way(lake, law, plan, n, load, a, b, sort, 0), row == null ? -1 : row.size());
        due(call + ", more", x.way(lake, law, plan, n, load, a, b, sort, 1), row == null ? -1 : more);
        for (int i = 0; row != null && i < row.size(); i++) {
            due(call + ", CELL " + i, x.way(lake, law, plan, n, load, a, b, sort, 10 + i), row.get(i));
        }
    }

    private void askWayOnDays(String trip, int load, int a, int b) {
        int thaw = -1;
        int opens = -1;
        int day = r.nextInt(31);
        int old = -1;
        List<Integer> told = s.behind(day).shortWay(load, a, b);
        for (int d = 60; d >= 0; d--) {
            List<Integer> row = s.behind(d).shortWay(load, a, b);
            thaw = row == null ? d : thaw;
            opens = row == null ? opens : d;
            old = d <= 30 && row != null && told != null && bits(row) == bits(told) ? d : old;
        }
        due("THAW " + trip, x.thaw(lake, law, plan, n, load, a, b), thaw);
        due("OPENS " + trip, x.lacks(lake, law, plan, n, load, a, b, 2), opens);
        due("BRANCHES " + trip, x.branches(lake, law, plan, n, load, a, b, day), told == null ? -1 : bits(told));
        due("OLD " + trip, x.old(lake, law, plan, n, load, a, b, told == null ? -1 : bits(told)), old);
    }

    private void askMeet(int load, int a, int b) {
        int c = r.nextInt(m.w * m.h);
        int d = (c + 1 + r.nextInt(m.w * m.h - 1)) % (m.w * m.h);
        int second = 1 + r.nextInt(20);
        List<Integer> p = s.shortWay(load, a, b);
        List<Integer> q = s.shortWay(second, c, d);
        int pause = -1;
        int later = r.nextInt(6);
        int met = -1;
        for (int k = 40; k >= 0; k--) {
            int minute = p == null || q == null ? -1 : minute(load, second, p, q, k);
            pause = minute < 0 && p != null && q != null ? k : pause;
            met = k == later ? minute : met;
        }
        int loads = second * 1000 + load;
        due("MEET of " + loads, x.meet(lake, law, plan, n, loads, 100 * b + a, 100 * d + c, later, false), met);
        due("PAUSE of " + loads, x.meet(lake, law, plan, n, loads, 100 * b + a, 100 * d + c, later, true), pause);
    }

    private int minute(int load, int second, List<Integer> p, List<Integer> q, int later) {
        for (int t = later; t < p.size() && t - later < q.size(); t++) {
            int a = p.get(t);
            int b = q.get(t - later);
            boolean weak = s.bears(a) < load + s.load(a, -1) + second * m.share / 10
                || s.bears(b) < second + s.load(b, -1) + load * m.share / 10;
            if (a == b || m.near(a, b) && weak) {
                return t;
            }
        }
        return -1;
    }

    private void askShop(int shop) {
        boolean up = s.stands(shop);
        int days = 1 + r.nextInt(60);
        int seed = r.nextInt();
        int times = 0;
        int swept = -1;
        int set = -1;
        int sweptHolds = -1;
        int setHolds = -1;
        for (int c = 0; up && c < m.w * m.h; c++) {
            FullModel.Now then = m.new Now(s);
            then.white[c] = 0;
            if (then.holds(shop) > sweptHolds) {
                sweptHolds = then.holds(shop);
                swept = c;
            }
            then = m.new Now(s);
            if ((c == s.at[shop] || then.act(new int[] {1, shop, c, -1})) && then.holds(shop) > setHolds) {
                setHolds = then.holds(shop);
                set = c;
            }
        }
        for (int k = 0; k < 9; k++) {
            times += s.winter(seed + k, days).stands(shop) ? 0 : 1;
        }
        due("HOLDS " + shop, x.holds(lake, law, plan, n, shop), up ? s.holds(shop) : -1);
        due("SET " + shop, x.set(lake, law, plan, n, shop), set);
        due("SWEPT " + shop, x.shopping(lake, law, plan, n, shop, 0), swept);
        due("FALLEN " + shop, x.fallen(lake, law, plan, n, seed, 9, days, shop), up ? times : -1);
        askShopLimits(shop, days);
    }

    private void askShopLimits(int shop, int days) {
        boolean up = s.stands(shop);
        int heavier = -1;
        int latest = -1;
        int cold = -100;
        for (int k = 0; up && k <= 99; k++) {
            FullModel.Now then = m.new Now(s);
            then.weight[shop] += k;
            heavier = then.firstToFall() < 0 ? k : heavier;
            latest = k <= 60 && s.behind(k).canOff(shop) ? k : latest;
        }
        for (int f = 20; up && f >= -20; f--) {
            FullModel.Now then = m.new Now(s);
            for (int d = 0; d < days; d++) {
                then.pass(f);
            }
            cold = then.stands(shop) ? f : cold;
        }
        due("HEAVIER " + shop, x.shopping(lake, law, plan, n, shop, 1), heavier);
        due("LATEST " + shop, x.shopping(lake, law, plan, n, shop, 2), latest);
        due("COLD " + shop, x.cold(lake, law, plan, n, shop, days), cold);
    }
}
