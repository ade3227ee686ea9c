import java.util.Arrays;

/** Ice as a street: LAKES, LAWS and PLANS are told as texts, and what follows from them is asked. */
public final class IceStreet {
    public static final int NONE = -1;

    private static final int NO_SUCH = -2;
    private static final int NO_ANSWER = -100;
    private static final int FELL = -2;

    private static final int MOST_CELLS = 36;
    private static final int SIDES = 4;
    private static final int MOST_SHOPS = 6;
    private static final int MOST_FROSTS = 12;
    private static final int MOST_LANES = 12;
    private static final int MOST_ACTS = 30;
    private static final int MOST_BYTES = 600;
    private static final int FED_BYTES = 20;
    private static final int MOST_THICK = 99;
    private static final int MOST_LOAD = 999;
    private static final int MOST_IMAGES = 3;
    private static final int MOST_CUTS = 4;
    private static final int FAR_DAYS = 60;
    private static final int OLD_DAYS = 30;
    private static final int DRAWN_DAYS = 6;
    private static final int BEYOND_WORTH = 1000;
    private static final int MOST_PAUSE = 40;
    private static final int LUCKY_STEPS = 7;
    /** Enough to find one of all that the thickest ice can BEAR, 99 times 99. */
    private static final int HALVINGS = 14;

    private static final int LAKE = 0;
    private static final int LAW = 1;
    private static final int PLAN = 2;
    private static final int[] MOST_OF_SORT = {2, 2, 3};

    private static final int ACT_DAY = 0;
    private static final int ACT_MOVE = 1;
    private static final int ACT_OFF = 2;
    private static final int ACT_GO = 3;
    private static final int ACT_SWEEP = 4;

    private static final int SHORT = 0;
    private static final int SPARE = 1;
    private static final int LUCKY = 2;

    private final Told told;
    private final Told[] images;
    private final boolean[] taken;
    private final Reader reader;
    private final Scene now;
    private final Ways ways;
    private final Deeds deeds;
    private final Outlook outlook;
    private final Drawing drawing;
    private final Route route;
    private final Route otherRoute;

    public IceStreet() {
        told = new Told();
        images = new Told[MOST_IMAGES];
        for (int k = 0; k < MOST_IMAGES; k++) {
            images[k] = new Told();
        }
        taken = new boolean[MOST_IMAGES];
        reader = new Reader();
        now = new Scene(told.lakes[0], told.laws[0]);
        ways = new Ways(told.lakes[0], told.laws[0]);
        deeds = new Deeds(ways);
        outlook = new Outlook(ways, told.lakes[0], told.laws[0]);
        drawing = new Drawing(ways, told.lakes[0], told.laws[0]);
        route = new Route();
        otherRoute = new Route();
    }

    public int feed(int a, int b, int c, int d, int e) {
        if (told.taped + FED_BYTES > MOST_BYTES) {
            return NONE;
        }
        told.tapeNumber(a);
        told.tapeNumber(b);
        told.tapeNumber(c);
        told.tapeNumber(d);
        told.tapeNumber(e);
        return told.taped;
    }

    public int end(int n) {
        if (n < 0 || n > told.taped) {
            return NONE;
        }
        told.taped = n;
        return n;
    }

    public int text(int sort, int at) {
        // The tape is taken whatever the answer is, also where no text is read.
        int length = told.taped;
        told.taped = 0;
        told.fault = 0;
        told.place = NONE;
        if (!hasPlace(sort, at)) {
            return NO_SUCH;
        }
        if (!reader.read(told.tape, length, sort)) {
            told.fault = reader.fault;
            told.place = reader.place;
            return NONE;
        }
        int number = at == NONE ? told.counts[sort]++ : at;
        keepDraft(sort, number);
        return number;
    }

    private boolean hasPlace(int sort, int at) {
        if (sort < LAKE || sort > PLAN) {
            return false;
        }
        return at == NONE ? told.counts[sort] < MOST_OF_SORT[sort] : told.has(sort, at);
    }

    private void keepDraft(int sort, int number) {
        if (sort == LAKE) {
            told.lakes[number].become(reader.lake);
        } else if (sort == LAW) {
            told.laws[number].become(reader.law);
        } else {
            told.plans[number].become(reader.plan);
        }
    }

    public int fault(int what) {
        if (what == 0) {
            return told.fault;
        }
        return what == 1 ? told.place : NONE;
    }

    public int lake(int lake, int what) {
        if (!told.has(LAKE, lake)) {
            return NO_ANSWER;
        }
        Lake it = told.lakes[lake];
        switch (what) {
            case 0: return it.wide;
            case 1: return it.high;
            case 2: return it.bear;
            case 3: return it.frostCount;
            case 4: return it.shopCount;
            default: return what >= 20 && what < 20 + it.frostCount ? it.frosts[what - 20] : NO_ANSWER;
        }
    }

    public int cell(int lake, int cell, int what) {
        if (!told.has(LAKE, lake) || !told.lakes[lake].isCell(cell)) {
            return NONE;
        }
        Lake it = told.lakes[lake];
        switch (what) {
            case 0: return it.thick[cell];
            case 1: return it.snow[cell];
            case 2: return it.weak[cell];
            case 3: return hasBit(it.shore, cell) ? 1 : 0;
            case 4: return Long.bitCount(it.cracks[cell]);
            default: return NONE;
        }
    }

    public int shop(int lake, int shop, int what) {
        if (!told.has(LAKE, lake) || shop < 0 || shop >= told.lakes[lake].shopCount) {
            return NONE;
        }
        Lake it = told.lakes[lake];
        switch (what) {
            case 0: return it.shopCell[shop];
            case 1: return it.weight[shop];
            case 2: return it.stove[shop];
            case 3: return it.worth[shop];
            default: return NONE;
        }
    }

    public int law(int law, int what) {
        if (!told.has(LAW, law)) {
            return NONE;
        }
        Law it = told.laws[law];
        switch (what) {
            case 0: return it.least;
            case 1: return it.apart;
            case 2: return it.share;
            case 3: return it.rent;
            case 4: return it.laneCount;
            default: return it.tellRow(what);
        }
    }

    public int act(int plan, int act, int what) {
        if (!told.has(PLAN, plan)) {
            return NO_SUCH;
        }
        Plan it = told.plans[plan];
        if (act == NONE) {
            return what == 0 ? it.actCount : NO_SUCH;
        }
        if (act < 0 || act >= it.actCount) {
            return NO_SUCH;
        }
        switch (what) {
            case 0: return it.sorts[act];
            case 1: return it.first[act];
            case 2: return it.second[act];
            case 3: return it.third[act];
            default: return NO_SUCH;
        }
    }

    public int stop(int lake, int law, int plan) {
        if (!told.has(LAKE, lake) || !told.has(LAW, law) || !told.has(PLAN, plan)) {
            return NONE;
        }
        now.begin(told.lakes[lake], told.laws[law]);
        int acts = told.plans[plan].actCount;
        for (int i = 0; i < acts; i++) {
            if (!deeds.perform(now, told.plans[plan], i)) {
                return i;
            }
        }
        return acts;
    }

    public int state(int lake, int law, int plan, int n, int what) {
        if (!stage(lake, law, plan, n)) {
            return NO_ANSWER;
        }
        switch (what) {
            case 0: return now.day;
            case 1: return now.paid;
            case 2: return now.lost();
            case 3: return now.broken();
            case 4: return ways.partCount(now.lake);
            default: return what >= 10 && what < 10 + now.lake.shopCount ? now.at[what - 10] : NO_ANSWER;
        }
    }

    public int ice(int lake, int law, int plan, int n, int cell, int what) {
        if (!stage(lake, law, plan, n) || !now.lake.isCell(cell)) {
            return NONE;
        }
        switch (what) {
            case 0: return now.thick[cell];
            case 1: return now.snow[cell];
            case 2: return now.bears(cell);
            case 3: return now.load[cell];
            default: return NONE;
        }
    }

    public int way(int lake, int law, int plan, int n, int load, int from, int to, int sort, int what) {
        if (!stage(lake, law, plan, n) || !isTrip(load, from, to)) {
            return NONE;
        }
        ways.survey(now, 0);
        if (!ways.find(sort, load, from, to)) {
            return NONE;
        }
        if (what == 0) {
            return ways.length;
        }
        if (what == 1) {
            return sort == SPARE ? ways.spare : 0;
        }
        return what >= 10 && what < 10 + ways.length ? ways.path[what - 10] : NONE;
    }

    public long luck(int lake, int law, int plan, int n, int load, int from, int to) {
        if (!stage(lake, law, plan, n) || !isTrip(load, from, to)) {
            return NONE;
        }
        ways.survey(now, 0);
        return ways.find(LUCKY, load, from, to) ? ways.chance : NONE;
    }

    public int most(int lake, int law, int plan, int n, int from, int to) {
        if (!stage(lake, law, plan, n) || !isTrip(1, from, to)) {
            return NONE;
        }
        ways.survey(now, 0);
        int greatest = ways.greatestLoad(from, to);
        return greatest < 1 ? NONE : Math.min(greatest, MOST_LOAD);
    }

    public long from(int lake, int law, int plan, int n, int load, int cell) {
        if (!stage(lake, law, plan, n) || !now.lake.isCell(cell) || !isLoad(load)) {
            return NONE;
        }
        ways.survey(now, 0);
        return ways.reach(load, cell);
    }

    public long part(int lake, int law, int plan, int n, int cell, boolean dues) {
        if (!stage(lake, law, plan, n) || !now.lake.isCell(cell)) {
            return NONE;
        }
        long cells = ways.joined(now.lake, cell);
        return dues ? now.duesIn(cells) : cells;
    }

    public int holds(int lake, int law, int plan, int n, int shop) {
        if (!stage(lake, law, plan, n) || !now.stands(shop)) {
            return NONE;
        }
        return outlook.daysHeld(now, shop);
    }

    public int fair(int lake, int law, int plan, int n, int weight, int w, int h, boolean days) {
        if (!stage(lake, law, plan, n) || !isLoad(weight) || w < 1 || w > 6 || h < 1 || h > 6) {
            return NONE;
        }
        return outlook.longestFair(now, weight, w, h, days);
    }

    public int drawn(int lake, int law, int plan, int n, int days, int what) {
        if (days < 1 || days > DRAWN_DAYS || !stage(lake, law, plan, n)) {
            return NO_SUCH;
        }
        boolean isDay = what >= 10 && what < 10 + days;
        if (what != 0 && !isDay) {
            return NO_SUCH;
        }
        drawing.ready(now, days);
        drawing.tryDay(0);
        return isDay ? drawing.best[what - 10] : drawing.bestWorth;
    }

    public int set(int lake, int law, int plan, int n, int shop) {
        if (!stage(lake, law, plan, n) || !now.stands(shop)) {
            return NONE;
        }
        return outlook.safestCell(now, shop);
    }

    public int hearth(int lake, int law, int plan, int n) {
        if (!stage(lake, law, plan, n)) {
            return NONE;
        }
        return outlook.worstStove(now);
    }

    public long branches(int lake, int law, int plan, int n, int load, int from, int to, int day) {
        if (day < 0 || day > OLD_DAYS || !stage(lake, law, plan, n) || !isTrip(load, from, to)) {
            return NONE;
        }
        for (int d = 0; d < day; d++) {
            now.passDay(now.frost());
        }
        return ways.shortCells(now, load, from, to);
    }

    public int old(int lake, int law, int plan, int n, int load, int from, int to, long cells) {
        // NONE as bits would be taken for a DAY without a WAY.
        if (cells < 0 || !stage(lake, law, plan, n) || !isTrip(load, from, to)) {
            return NONE;
        }
        for (int d = 0; d <= OLD_DAYS; d++) {
            if (ways.shortCells(now, load, from, to) == cells) {
                return d;
            }
            now.passDay(now.frost());
        }
        return NONE;
    }

    public int thaw(int lake, int law, int plan, int n, int load, int from, int to) {
        if (!stage(lake, law, plan, n) || !isTrip(load, from, to)) {
            return NONE;
        }
        return outlook.firstDayWith(now, false, load, from, to);
    }

    public int gulls(int lake, int law, int plan, int n) {
        if (!stage(lake, law, plan, n)) {
            return NONE;
        }
        return outlook.firstWater(now);
    }

    public int sawn(int lake, int law, int plan, int n, int load, int from, int to) {
        if (!stage(lake, law, plan, n) || !isTrip(load, from, to)) {
            return NONE;
        }
        ways.survey(now, 0);
        return ways.fewestCuts(load, from, to);
    }

    public int meet(int lake, int law, int plan, int n, int loads, int way, int other, int later, boolean pause) {
        if (!pause && (later < 0 || later > MOST_PAUSE) || !stage(lake, law, plan, n)) {
            return NONE;
        }
        int firstLoad = loads % 1000;
        int secondLoad = loads / 1000;
        if (!isTrip(firstLoad, way % 100, way / 100) || !isTrip(secondLoad, other % 100, other / 100)) {
            return NONE;
        }
        ways.survey(now, 0);
        if (!route.take(ways, firstLoad, way) || !otherRoute.take(ways, secondLoad, other)) {
            return NONE;
        }
        return pause ? route.fewestLater(now, otherRoute) : route.minuteMet(now, otherRoute, later);
    }

    public int winter(int lake, int law, int plan, int n, int seed, int days, int what) {
        if (days < 0 || days > FAR_DAYS || !stage(lake, law, plan, n)) {
            return NONE;
        }
        int x = seed;
        for (int d = 0; d < days; d++) {
            x = nextDraw(x);
            now.passDay(now.frost() + drawnFrost(x));
        }
        switch (what) {
            case 0: return now.lost();
            case 1: return now.paid;
            case 2: return now.standing();
            default: return what >= 100 && now.lake.isCell(what - 100) ? now.thick[what - 100] : NONE;
        }
    }

    public int fallen(int lake, int law, int plan, int n, int seed, int w, int days, int shop) {
        if (w < 1 || w > 9 || days < 0 || days > FAR_DAYS) {
            return NONE;
        }
        if (!stage(lake, law, plan, n) || !now.stands(shop)) {
            return NONE;
        }
        int times = 0;
        for (int k = 0; k < w; k++) {
            if (outlook.fallsBySeed(now, shop, seed + k, days)) {
                times++;
            }
        }
        return times;
    }

    public int shopping(int lake, int law, int plan, int n, int shop, int what) {
        if (!stage(lake, law, plan, n) || !now.stands(shop)) {
            return NONE;
        }
        switch (what) {
            case 0: return outlook.bestSwept(now, shop);
            case 1: return outlook.heavier(now, shop);
            case 2: return outlook.latestLeave(now, shop);
            default: return NONE;
        }
    }

    public int cold(int lake, int law, int plan, int n, int shop, int days) {
        if (days < 1 || days > FAR_DAYS || !stage(lake, law, plan, n) || !now.stands(shop)) {
            return NO_ANSWER;
        }
        return outlook.leastFrost(now, shop, days);
    }

    public int lacks(int lake, int law, int plan, int n, int load, int from, int to, int sort) {
        if (!stage(lake, law, plan, n) || !isTrip(load, from, to)) {
            return NONE;
        }
        switch (sort) {
            case 0:
                ways.survey(now, 0);
                return ways.fewestAgainst(load, from, to);
            case 1: return ways.thickerBy(now, load, from, to);
            case 2: return outlook.firstDayWith(now, true, load, from, to);
            default: return NONE;
        }
    }

    public long needs(int lake, int law, int plan, int n, int load, int from, int to) {
        if (!stage(lake, law, plan, n) || !isTrip(load, from, to)) {
            return NONE;
        }
        ways.survey(now, 0);
        return ways.neededCells(load, from, to);
    }

    public int spread(int lake, int law, int plan, int n) {
        if (!stage(lake, law, plan, n)) {
            return NONE;
        }
        return now.nearestStoves();
    }

    public int count(int sort) {
        return sort < LAKE || sort > PLAN ? NO_SUCH : told.counts[sort];
    }

    public boolean image(int k) {
        if (k < 0 || k >= MOST_IMAGES) {
            return false;
        }
        images[k].become(told);
        taken[k] = true;
        return true;
    }

    public boolean again(int k) {
        if (k < 0 || k >= MOST_IMAGES || !taken[k]) {
            return false;
        }
        told.become(images[k]);
        return true;
    }

    /** Makes {@code now} the STATE that is asked for; false if there is none such. */
    private boolean stage(int lake, int law, int plan, int n) {
        if (!told.has(LAKE, lake) || !told.has(LAW, law) || plan != NONE && !told.has(PLAN, plan)) {
            return false;
        }
        int acts = plan == NONE ? 0 : told.plans[plan].actCount;
        if (n < 0 || n > acts) {
            return false;
        }
        now.begin(told.lakes[lake], told.laws[law]);
        for (int i = 0; i < n; i++) {
            if (!deeds.perform(now, told.plans[plan], i)) {
                return false;
            }
        }
        return true;
    }

    private boolean isTrip(int load, int from, int to) {
        return isLoad(load) && from != to && now.lake.isCell(from) && now.lake.isCell(to);
    }

    private static boolean isLoad(int load) {
        return load >= 1 && load <= MOST_LOAD;
    }

    private static long bit(int c) {
        return 1L << c;
    }

    private static boolean hasBit(long bits, int c) {
        return (bits >>> c & 1L) != 0L;
    }

    private static int lowestBit(long bits) {
        for (int c = 0; c < MOST_CELLS; c++) {
            if (hasBit(bits, c)) {
                return c;
            }
        }
        return NONE;
    }

    private static int nextDraw(int x) {
        return x * 1103515245 + 12345;
    }

    private static int drawnFrost(int x) {
        return (x >>> 16) % 7 - 3;
    }

    /** All that images keep. */
    private static final class Told {
        final byte[] tape = new byte[MOST_BYTES];
        int taped;
        int fault;
        int place = NONE;
        final int[] counts = new int[3];
        final Lake[] lakes = {new Lake(), new Lake()};
        final Law[] laws = {new Law(), new Law()};
        final Plan[] plans = {new Plan(), new Plan(), new Plan()};

        boolean has(int sort, int number) {
            return number >= 0 && number < counts[sort];
        }

        void tapeNumber(int a) {
            for (int shift = 24; shift >= 0 && taped < MOST_BYTES; shift -= 8) {
                tape[taped++] = (byte) (a >>> shift);
            }
        }

        void become(Told other) {
            System.arraycopy(other.tape, 0, tape, 0, other.taped);
            taped = other.taped;
            fault = other.fault;
            place = other.place;
            System.arraycopy(other.counts, 0, counts, 0, counts.length);
            for (int i = 0; i < counts[LAKE]; i++) {
                lakes[i].become(other.lakes[i]);
            }
            for (int i = 0; i < counts[LAW]; i++) {
                laws[i].become(other.laws[i]);
            }
            for (int i = 0; i < counts[PLAN]; i++) {
                plans[i].become(other.plans[i]);
            }
        }
    }

    /** A LAKE as it was told. */
    private static final class Lake {
        int wide;
        int high;
        int bear;
        final int[] thick = new int[MOST_CELLS];
        final int[] snow = new int[MOST_CELLS];
        final int[] weak = new int[MOST_CELLS];
        /** Of each CELL those (bits) from which a CRACK parts it. */
        final long[] cracks = new long[MOST_CELLS];
        long shore;
        /** CELLS (bits) that the text names, be they there or not. */
        long named;
        final int[] frosts = new int[MOST_FROSTS];
        int frostCount;
        int shopCount;
        final int[] shopCell = new int[MOST_SHOPS];
        final int[] weight = new int[MOST_SHOPS];
        final int[] stove = new int[MOST_SHOPS];
        final int[] worth = new int[MOST_SHOPS];
        /** Of each CELL the four beside it, the least first (the first by rows is found so), or NONE. */
        final int[] side = new int[MOST_CELLS * SIDES];
        /** As side, but NONE behind a CRACK. */
        final int[] near = new int[MOST_CELLS * SIDES];

        Lake() {
            clear();
        }

        void clear() {
            wide = 4;
            high = 4;
            bear = 10;
            Arrays.fill(thick, 20);
            Arrays.fill(snow, 0);
            Arrays.fill(weak, 0);
            Arrays.fill(cracks, 0L);
            shore = 0L;
            named = 0L;
            frosts[0] = 0;
            frostCount = 1;
            shopCount = 0;
            chart();
        }

        void become(Lake other) {
            wide = other.wide;
            high = other.high;
            bear = other.bear;
            System.arraycopy(other.thick, 0, thick, 0, MOST_CELLS);
            System.arraycopy(other.snow, 0, snow, 0, MOST_CELLS);
            System.arraycopy(other.weak, 0, weak, 0, MOST_CELLS);
            System.arraycopy(other.cracks, 0, cracks, 0, MOST_CELLS);
            shore = other.shore;
            named = other.named;
            System.arraycopy(other.frosts, 0, frosts, 0, MOST_FROSTS);
            frostCount = other.frostCount;
            shopCount = other.shopCount;
            System.arraycopy(other.shopCell, 0, shopCell, 0, MOST_SHOPS);
            System.arraycopy(other.weight, 0, weight, 0, MOST_SHOPS);
            System.arraycopy(other.stove, 0, stove, 0, MOST_SHOPS);
            System.arraycopy(other.worth, 0, worth, 0, MOST_SHOPS);
            System.arraycopy(other.side, 0, side, 0, side.length);
            System.arraycopy(other.near, 0, near, 0, near.length);
        }

        int cells() {
            return wide * high;
        }

        boolean isCell(int c) {
            return c >= 0 && c < wide * high;
        }

        void crackBetween(int a, int b) {
            cracks[a] |= bit(b);
            cracks[b] |= bit(a);
        }

        void addShop(int c, int heavy, int hot, int dear) {
            if (shopCount < MOST_SHOPS) {
                shopCell[shopCount] = c;
                weight[shopCount] = heavy;
                stove[shopCount] = hot;
                worth[shopCount] = dear;
                shopCount++;
            }
        }

        void addFrost(int f) {
            if (frostCount < MOST_FROSTS) {
                frosts[frostCount++] = f;
            }
        }

        /** Columns and rows together. */
        int steps(int a, int b) {
            int columns = wide < 1 ? 1 : wide;
            return Math.abs(a % columns - b % columns) + Math.abs(a / columns - b / columns);
        }

        int bearing(int inches) {
            return bear < 1 ? 0 : inches * inches / bear;
        }

        /** Whether a FAULT 4 is in it; its CELLS can be told only when its whole text was read. */
        boolean isAmiss() {
            if ((named >>> cells()) != 0L) {
                return true;
            }
            for (int a = 0; a < MOST_CELLS; a++) {
                for (int b = 0; b < a; b++) {
                    if (hasBit(cracks[a], b) && steps(a, b) != 1) {
                        return true;
                    }
                }
            }
            for (int s = 0; s < shopCount; s++) {
                for (int t = 0; t < s; t++) {
                    if (shopCell[s] == shopCell[t]) {
                        return true;
                    }
                }
            }
            return false;
        }

        void chart() {
            Arrays.fill(side, NONE);
            Arrays.fill(near, NONE);
            for (int row = 0; row < high; row++) {
                for (int column = 0; column < wide; column++) {
                    int c = row * wide + column;
                    join(c, 0, row > 0, c - wide);
                    join(c, 1, column > 0, c - 1);
                    join(c, 2, column + 1 < wide, c + 1);
                    join(c, 3, row + 1 < high, c + wide);
                }
            }
        }

        private void join(int c, int k, boolean there, int d) {
            if (there) {
                side[c * SIDES + k] = d;
                near[c * SIDES + k] = hasBit(cracks[c], d) ? NONE : d;
            }
        }
    }

    /** A LAW as it was told. */
    private static final class Law {
        int least;
        int apart;
        int share;
        int rent;
        int laneCount;
        final int[] laneFrom = new int[MOST_LANES];
        final int[] laneTo = new int[MOST_LANES];
        long barred;
        /** Of each CELL those (bits) to which a step is against a LANE. */
        final long[] against = new long[MOST_CELLS];

        Law() {
            clear();
        }

        void clear() {
            least = 0;
            apart = 0;
            share = 5;
            rent = 1;
            laneCount = 0;
            barred = 0L;
            Arrays.fill(against, 0L);
        }

        void become(Law other) {
            least = other.least;
            apart = other.apart;
            share = other.share;
            rent = other.rent;
            laneCount = other.laneCount;
            System.arraycopy(other.laneFrom, 0, laneFrom, 0, MOST_LANES);
            System.arraycopy(other.laneTo, 0, laneTo, 0, MOST_LANES);
            barred = other.barred;
            System.arraycopy(other.against, 0, against, 0, MOST_CELLS);
        }

        void addLane(int a, int b) {
            if (laneCount < MOST_LANES) {
                laneFrom[laneCount] = a;
                laneTo[laneCount] = b;
                laneCount++;
                against[b] |= bit(a);
            }
        }

        int tellRow(int what) {
            if (what >= 20 && what < 20 + laneCount) {
                return laneFrom[what - 20];
            }
            if (what >= 40 && what < 40 + laneCount) {
                return laneTo[what - 40];
            }
            if (what >= 60 && what < 60 + MOST_CELLS) {
                return hasBit(barred, what - 60) ? 1 : 0;
            }
            return NONE;
        }

        int shareOf(int load) {
            return load * share / 10;
        }

        int dueFor(int inches) {
            return rent * inches / 10;
        }
    }

    /** A PLAN as it was told. */
    private static final class Plan {
        int actCount;
        final int[] sorts = new int[MOST_ACTS];
        final int[] first = new int[MOST_ACTS];
        final int[] second = new int[MOST_ACTS];
        final int[] third = new int[MOST_ACTS];

        void become(Plan other) {
            actCount = other.actCount;
            System.arraycopy(other.sorts, 0, sorts, 0, MOST_ACTS);
            System.arraycopy(other.first, 0, first, 0, MOST_ACTS);
            System.arraycopy(other.second, 0, second, 0, MOST_ACTS);
            System.arraycopy(other.third, 0, third, 0, MOST_ACTS);
        }

        void addAct(int sort, int a, int b, int c) {
            if (actCount < MOST_ACTS) {
                sorts[actCount] = sort;
                first[actCount] = a;
                second[actCount] = b;
                third[actCount] = c;
                actCount++;
            }
        }
    }

    /** Reads the tape as a text, into drafts of its own: what was told before stays if there is a FAULT. */
    private static final class Reader {
        private static final int END = 0;
        private static final int WORD = 1;
        private static final int NUMBER = 2;
        private static final int MINUS = 3;
        private static final int SEMICOLON = 4;
        private static final int NO_TOKEN = 5;

        private static final int SIZE = 0;
        private static final int ALL = 1;
        private static final int ICE = 2;
        private static final int SNOW = 3;
        private static final int WEAK = 4;
        private static final int CRACK = 5;
        private static final int FROST = 6;
        private static final int BEAR = 7;
        private static final int SHORE = 8;
        private static final int SHOP = 9;
        private static final int LEAST = 10;
        private static final int APART = 11;
        private static final int SHARE = 12;
        private static final int RENT = 13;
        private static final int LANE = 14;
        private static final int BAR = 15;
        private static final int DAY = 16;
        private static final int MOVE = 17;
        private static final int OFF = 18;
        private static final int GO = 19;
        private static final int SWEEP = 20;
        /** The lines of a sort of text are from its number here up to the next one. */
        private static final int[] LINES_OF_SORT = {SIZE, LEAST, DAY, SWEEP + 1};

        final Lake lake = new Lake();
        final Law law = new Law();
        final Plan plan = new Plan();
        int fault;
        int place;

        private final int[] numbers = new int[4];
        private byte[] tape = new byte[0];
        private int length;
        private int sort;
        private int kind;
        private int value;
        private int start;
        private int after;
        private int shopLines;
        private int laneLines;
        private int actLines;

        boolean read(byte[] bytes, int many, int sortOfText) {
            tape = bytes;
            length = Math.min(many, bytes.length);
            sort = sortOfText;
            clear();
            advance();
            for (int lines = 0; lines <= MOST_BYTES && kind != END; lines++) {
                if (!readLine()) {
                    return false;
                }
            }
            if (sort == LAKE && fault == 0) {
                if (lake.isAmiss()) {
                    note(4, length);
                }
                lake.chart();
            }
            return fault == 0;
        }

        private void clear() {
            lake.clear();
            law.clear();
            plan.actCount = 0;
            fault = 0;
            place = NONE;
            after = 0;
            shopLines = 0;
            laneLines = 0;
            actLines = 0;
        }

        private void advance() {
            start = after;
            while (start < length && (tape[start] == ' ' || tape[start] == '\n')) {
                start++;
            }
            after = Math.min(start + 1, length);
            if (start >= length) {
                kind = END;
            } else if (isLetter(start)) {
                takeLetters();
            } else if (isDigit(start)) {
                takeDigits();
            } else if (tape[start] == '-') {
                kind = MINUS;
            } else {
                kind = tape[start] == ';' ? SEMICOLON : NO_TOKEN;
            }
        }

        private void takeLetters() {
            kind = WORD;
            while (after < length && isLetter(after)) {
                after++;
            }
        }

        private void takeDigits() {
            value = tape[start] - '0';
            while (after < length && isDigit(after)) {
                if (after == start + 1) {
                    value = value * 10 + tape[after] - '0';
                }
                after++;
            }
            kind = after > start + 2 ? NO_TOKEN : NUMBER;
        }

        private boolean isLetter(int i) {
            return tape[i] >= 'a' && tape[i] <= 'z';
        }

        private boolean isDigit(int i) {
            return tape[i] >= '0' && tape[i] <= '9';
        }

        private boolean refuse() {
            fault = 1;
            place = start;
            return false;
        }

        /** The text is read in the order of places, so the one that is noted first stays. */
        private void note(int which, int where) {
            if (fault == 0) {
                fault = which;
                place = where;
            }
        }

        private boolean readLine() {
            int line = lineOfWord();
            if (line == NONE) {
                return refuse();
            }
            openLine(line);
            advance();
            if (!readNumbers(line)) {
                return false;
            }
            if (kind != SEMICOLON) {
                return refuse();
            }
            if (fault == 0) {
                tellLine(line);
            }
            advance();
            return true;
        }

        private int lineOfWord() {
            if (kind == WORD) {
                for (int line = LINES_OF_SORT[sort]; line < LINES_OF_SORT[sort + 1]; line++) {
                    if (isWord(wordOf(line))) {
                        return line;
                    }
                }
            }
            return NONE;
        }

        private boolean isWord(String word) {
            if (word.length() != after - start) {
                return false;
            }
            for (int k = 0; k < word.length(); k++) {
                if (word.charAt(k) != tape[start + k]) {
                    return false;
                }
            }
            return true;
        }

        private static String wordOf(int line) {
            switch (line) {
                case SIZE: return "size";
                case ALL: return "all";
                case ICE: return "ice";
                case SNOW: return "snow";
                case WEAK: return "weak";
                case CRACK: return "crack";
                case FROST: return "frost";
                case BEAR: return "bear";
                case SHORE: return "shore";
                case SHOP: return "shop";
                case LEAST: return "least";
                case APART: return "apart";
                case SHARE: return "share";
                case RENT: return "rent";
                case LANE: return "lane";
                case BAR: return "bar";
                case DAY: return "day";
                case MOVE: return "move";
                case OFF: return "off";
                case GO: return "go";
                case SWEEP: return "sweep";
                default: return "";
            }
        }

        /**
         * A letter for each number of a line, by what it can be: c a CELL, o another one than the number before,
         * s a SHOP, z 2 .. 6, n 0 .. 9, h 0 .. 10, p 1 .. 99, t 0 .. 99, f -20 .. 20.
         */
        private static String numbersOf(int line) {
            switch (line) {
                case SIZE: return "zz";
                case ICE: return "ct";
                case SNOW:
                case WEAK: return "cn";
                case CRACK:
                case LANE: return "co";
                case FROST: return "f";
                case BEAR: return "p";
                case SHOP: return "cpnt";
                case APART: return "n";
                case SHARE: return "h";
                case DAY: return "";
                case MOVE: return "sc";
                case OFF: return "s";
                case GO: return "pco";
                case SHORE:
                case BAR:
                case SWEEP: return "c";
                default: return "t";
            }
        }

        private static boolean hasMore(int line) {
            return line == FROST || line == SHORE || line == BAR;
        }

        private static int least(char letter) {
            return letter == 'z' ? 2 : letter == 'p' ? 1 : 0;
        }

        private static int greatest(char letter) {
            if (letter == 'c' || letter == 'o') {
                return MOST_CELLS - 1;
            }
            if (letter == 's') {
                return MOST_SHOPS - 1;
            }
            if (letter == 'f') {
                return 20;
            }
            return letter == 'z' ? 6 : letter == 'n' ? 9 : letter == 'h' ? 10 : 99;
        }

        private void openLine(int line) {
            if (line == FROST) {
                lake.frostCount = 0;
            } else if (line == SHOP) {
                shopLines++;
            } else if (line == LANE) {
                laneLines++;
            } else if (line >= DAY) {
                actLines++;
            }
            if (shopLines > MOST_SHOPS || laneLines > MOST_LANES || actLines > MOST_ACTS) {
                note(3, start);
            }
        }

        private boolean readNumbers(int line) {
            String letters = numbersOf(line);
            for (int i = 0; i < letters.length(); i++) {
                if (!readNumber(line, letters.charAt(i), i)) {
                    return false;
                }
            }
            if (hasMore(line)) {
                for (int i = 1; i < MOST_BYTES && (kind == NUMBER || kind == MINUS && line == FROST); i++) {
                    if (!readNumber(line, letters.charAt(0), i)) {
                        return false;
                    }
                }
            }
            return true;
        }

        private boolean readNumber(int line, char letter, int i) {
            boolean beyond = line == FROST && i >= MOST_FROSTS;
            boolean minus = letter == 'f' && kind == MINUS;
            if (minus) {
                if (beyond) {
                    note(3, start);
                }
                advance();
            }
            if (kind != NUMBER) {
                return refuse();
            }
            boolean same = letter == 'o' && i > 0 && i <= numbers.length && value == numbers[i - 1];
            if (value < least(letter) || value > greatest(letter) || same) {
                note(2, start);
            }
            if (beyond) {
                note(3, start);
            }
            if (i < numbers.length) {
                numbers[i] = value;
            }
            if (fault == 0) {
                tellNumber(line, letter, minus ? -value : value);
            }
            advance();
            return true;
        }

        private void tellNumber(int line, char letter, int number) {
            if (sort == LAKE && (letter == 'c' || letter == 'o')) {
                lake.named |= bit(number);
            }
            if (line == FROST) {
                lake.addFrost(number);
            } else if (line == SHORE) {
                lake.shore |= bit(number);
            } else if (line == BAR) {
                law.barred |= bit(number);
            }
        }

        private void tellLine(int line) {
            if (sort == LAKE) {
                tellLake(line);
            } else if (sort == LAW) {
                tellLaw(line);
            } else {
                int many = numbersOf(line).length();
                plan.addAct(line - DAY, many > 0 ? numbers[0] : NONE, many > 1 ? numbers[1] : NONE,
                    many > 2 ? numbers[2] : NONE);
            }
        }

        private void tellLake(int line) {
            int a = numbers[0];
            int b = numbers[1];
            switch (line) {
                case SIZE:
                    lake.wide = a;
                    lake.high = b;
                    break;
                case ALL:
                    Arrays.fill(lake.thick, a);
                    break;
                case ICE:
                    lake.thick[a] = b;
                    break;
                case SNOW:
                    lake.snow[a] = b;
                    break;
                case WEAK:
                    lake.weak[a] = b;
                    break;
                case CRACK:
                    lake.crackBetween(a, b);
                    break;
                case BEAR:
                    lake.bear = a;
                    break;
                case SHOP:
                    lake.addShop(a, b, numbers[2], numbers[3]);
                    break;
                default:
                    break;
            }
        }

        private void tellLaw(int line) {
            switch (line) {
                case LEAST:
                    law.least = numbers[0];
                    break;
                case APART:
                    law.apart = numbers[0];
                    break;
                case SHARE:
                    law.share = numbers[0];
                    break;
                case RENT:
                    law.rent = numbers[0];
                    break;
                case LANE:
                    law.addLane(numbers[0], numbers[1]);
                    break;
                default:
                    break;
            }
        }
    }

    /** A STATE of a LAKE by a LAW. */
    private static final class Scene {
        Lake lake;
        Law law;
        final int[] thick = new int[MOST_CELLS];
        final int[] snow = new int[MOST_CELLS];
        /** LOAD and HEAT are kept as SHOPS come and go, since DAYS ask for them far more often. */
        final int[] load = new int[MOST_CELLS];
        final int[] heat = new int[MOST_CELLS];
        final int[] at = new int[MOST_SHOPS];
        final int[] weight = new int[MOST_SHOPS];
        final int[] stove = new int[MOST_SHOPS];
        int day;
        int paid;

        Scene(Lake firstLake, Law firstLaw) {
            lake = firstLake;
            law = firstLaw;
        }

        void begin(Lake ofLake, Law byLaw) {
            lake = ofLake;
            law = byLaw;
            System.arraycopy(lake.thick, 0, thick, 0, MOST_CELLS);
            System.arraycopy(lake.snow, 0, snow, 0, MOST_CELLS);
            System.arraycopy(lake.weight, 0, weight, 0, MOST_SHOPS);
            System.arraycopy(lake.stove, 0, stove, 0, MOST_SHOPS);
            Arrays.fill(load, 0);
            Arrays.fill(heat, 0);
            Arrays.fill(at, NONE);
            day = 0;
            paid = 0;
            for (int s = 0; s < lake.shopCount; s++) {
                lower(s, lake.shopCell[s]);
            }
            settle();
        }

        void become(Scene other) {
            lake = other.lake;
            law = other.law;
            System.arraycopy(other.thick, 0, thick, 0, MOST_CELLS);
            System.arraycopy(other.snow, 0, snow, 0, MOST_CELLS);
            System.arraycopy(other.load, 0, load, 0, MOST_CELLS);
            System.arraycopy(other.heat, 0, heat, 0, MOST_CELLS);
            System.arraycopy(other.at, 0, at, 0, MOST_SHOPS);
            System.arraycopy(other.weight, 0, weight, 0, MOST_SHOPS);
            System.arraycopy(other.stove, 0, stove, 0, MOST_SHOPS);
            day = other.day;
            paid = other.paid;
        }

        boolean stands(int s) {
            return s >= 0 && s < lake.shopCount && at[s] >= 0;
        }

        int bears(int c) {
            return lake.bearing(thick[c]);
        }

        void lower(int s, int c) {
            at[s] = c;
            burden(c, weight[s], law.shareOf(weight[s]), stove[s], stove[s] / 2);
        }

        void lift(int s, int where) {
            burden(at[s], -weight[s], -law.shareOf(weight[s]), -stove[s], -(stove[s] / 2));
            at[s] = where;
        }

        private void burden(int c, int heavy, int heavyNear, int hot, int hotNear) {
            load[c] += heavy;
            heat[c] += hot;
            for (int k = 0; k < SIDES; k++) {
                int d = lake.near[c * SIDES + k];
                if (d != NONE) {
                    load[d] += heavyNear;
                    heat[d] += hotNear;
                }
            }
        }

        void shift(int s, int c) {
            lift(s, NONE);
            lower(s, c);
            settle();
        }

        void drawOff(int s) {
            lift(s, NONE);
            settle();
        }

        void putOut(int s) {
            int c = at[s];
            lift(s, NONE);
            stove[s] = 0;
            lower(s, c);
        }

        void makeHeavier(int s) {
            int c = at[s];
            lift(s, NONE);
            weight[s]++;
            lower(s, c);
        }

        int nextToFall() {
            for (int s = 0; s < lake.shopCount; s++) {
                if (at[s] >= 0 && load[at[s]] > lake.bearing(thick[at[s]])) {
                    return s;
                }
            }
            return NONE;
        }

        private void settle() {
            for (int fallen = 0; fallen < MOST_SHOPS; fallen++) {
                int s = nextToFall();
                if (s == NONE) {
                    return;
                }
                thick[at[s]] = 0;
                lift(s, FELL);
            }
        }

        int frost() {
            return lake.frostCount < 1 ? 0 : lake.frosts[day % lake.frostCount];
        }

        void passDay(int f) {
            for (int c = 0; c < lake.cells(); c++) {
                freeze(c, f);
            }
            pay();
            settle();
        }

        /** As passDay where it matters who FALLS alone: that hangs on no other CELLS. */
        void passDayUnderShops(int f) {
            for (int s = 0; s < lake.shopCount; s++) {
                if (at[s] >= 0) {
                    freeze(at[s], f);
                }
            }
            pay();
            settle();
        }

        private void freeze(int c, int f) {
            int more = f > 0 ? Math.max(0, f - snow[c]) : f;
            thick[c] = Math.max(0, Math.min(MOST_THICK, thick[c] + more - heat[c]));
        }

        private void pay() {
            day++;
            for (int s = 0; s < lake.shopCount; s++) {
                if (at[s] >= 0) {
                    paid += law.dueFor(thick[at[s]]);
                }
            }
        }

        int lost() {
            int worth = 0;
            for (int s = 0; s < lake.shopCount; s++) {
                worth += at[s] == FELL ? lake.worth[s] : 0;
            }
            return worth;
        }

        int worthNotOff() {
            int worth = 0;
            for (int s = 0; s < lake.shopCount; s++) {
                worth += at[s] == NONE ? 0 : lake.worth[s];
            }
            return worth;
        }

        int standing() {
            int many = 0;
            for (int s = 0; s < lake.shopCount; s++) {
                many += at[s] >= 0 ? 1 : 0;
            }
            return many;
        }

        long shopCells() {
            long cells = 0L;
            for (int s = 0; s < lake.shopCount; s++) {
                cells |= at[s] >= 0 ? bit(at[s]) : 0L;
            }
            return cells;
        }

        int duesIn(long cells) {
            int dues = 0;
            for (int s = 0; s < lake.shopCount; s++) {
                if (at[s] >= 0 && hasBit(cells, at[s])) {
                    dues += law.dueFor(thick[at[s]]);
                }
            }
            return dues;
        }

        /** Whether another standing SHOP with a STOVE is nearer than APART to a CELL. */
        boolean isTooHot(int s, int c) {
            for (int t = 0; t < lake.shopCount; t++) {
                if (t != s && at[t] >= 0 && stove[t] > 0 && lake.steps(at[t], c) < law.apart) {
                    return true;
                }
            }
            return false;
        }

        int broken() {
            int shops = 0;
            for (int s = 0; s < lake.shopCount; s++) {
                if (at[s] >= 0 && (hasBit(law.barred, at[s]) || stove[s] > 0 && isTooHot(s, at[s]))) {
                    shops |= 1 << s;
                }
            }
            return shops;
        }

        int nearestStoves() {
            int fewest = NONE;
            for (int s = 0; s < lake.shopCount; s++) {
                for (int t = 0; t < s; t++) {
                    if (at[s] >= 0 && stove[s] > 0 && at[t] >= 0 && stove[t] > 0) {
                        int steps = lake.steps(at[s], at[t]);
                        fewest = fewest == NONE ? steps : Math.min(fewest, steps);
                    }
                }
            }
            return fewest;
        }
    }

    /** WAYS over a LAKE as it was surveyed last, and PARTS. */
    private static final class Ways {
        int length;
        int spare;
        long chance;
        final int[] path = new int[MOST_CELLS];

        private Lake lake;
        private Law law;
        /** Of each CELL what it BEARS beside its LOAD, below 1 if no WAY may come there. */
        private final int[] room = new int[MOST_CELLS];
        private final int[] dist = new int[MOST_CELLS];
        private final int[] queue = new int[MOST_CELLS];
        /** By steps yet to go, of each CELL the greatest product of chances of 10. */
        private final int[][] luckFrom = new int[LUCKY_STEPS + 1][MOST_CELLS];

        Ways(Lake firstLake, Law firstLaw) {
            lake = firstLake;
            law = firstLaw;
        }

        void survey(Scene scene, int thicker) {
            lake = scene.lake;
            law = scene.law;
            for (int c = 0; c < lake.cells(); c++) {
                int inches = scene.thick[c] + thicker;
                room[c] = inches < law.least ? 0 : lake.bearing(inches) - scene.load[c];
            }
            for (int s = 0; s < lake.shopCount; s++) {
                if (scene.at[s] >= 0) {
                    room[scene.at[s]] = 0;
                }
            }
        }

        private boolean mayStep(int c, int d) {
            return (law.against[c] >>> d & 1L) == 0L;
        }

        boolean find(int sort, int load, int from, int to) {
            switch (sort) {
                case SHORT: return findShort(load, from, to);
                case SPARE: return findSpare(load, from, to);
                case LUCKY: return findLucky(load, from, to);
                default: return false;
            }
        }

        boolean findShort(int load, int from, int to) {
            int left = measure(load, from, to);
            if (left == NONE) {
                return false;
            }
            path[0] = from;
            length = 1;
            for (int c = from; left > 0 && length < MOST_CELLS; left--) {
                c = nextNearer(c, load);
                path[length++] = c;
            }
            return true;
        }

        private int nextNearer(int c, int load) {
            for (int k = 0; k < SIDES; k++) {
                int d = lake.side[c * SIDES + k];
                if (d != NONE && room[d] >= load && dist[d] == dist[c] - 1 && mayStep(c, d)) {
                    return d;
                }
            }
            return c;
        }

        /** The fewest steps from a CELL to another one, NONE without a WAY; dist has those of all CELLS then. */
        int measure(int load, int from, int to) {
            Arrays.fill(dist, NONE);
            if (room[to] < load) {
                return NONE;
            }
            dist[to] = 0;
            queue[0] = to;
            int last = 1;
            for (int i = 0; i < last && i < MOST_CELLS; i++) {
                int d = queue[i];
                for (int k = 0; k < SIDES; k++) {
                    int c = lake.side[d * SIDES + k];
                    if (c != NONE && dist[c] == NONE && mayStep(c, d)) {
                        dist[c] = dist[d] + 1;
                        if (room[c] >= load && last < MOST_CELLS) {
                            queue[last++] = c;
                        }
                    }
                }
            }
            return dist[from];
        }

        /** The greatest load for which there is a WAY, above 999, too; 0 without. */
        int greatestLoad(int from, int to) {
            int can = 0;
            int cannot = room[to] + 1;
            for (int round = 0; round < HALVINGS && can + 1 < cannot; round++) {
                int load = can + (cannot - can) / 2;
                if (measure(load, from, to) != NONE) {
                    can = load;
                } else {
                    cannot = load;
                }
            }
            return can;
        }

        /** WAYS with the most to spare are just those for the greatest load. */
        private boolean findSpare(int load, int from, int to) {
            int greatest = greatestLoad(from, to);
            spare = greatest - load;
            return greatest >= load && findShort(greatest, from, to);
        }

        private boolean findLucky(int load, int from, int to) {
            Arrays.fill(luckFrom[0], 0);
            luckFrom[0][to] = room[to] >= load ? 1 : 0;
            chance = 0L;
            int steps = 0;
            for (int left = 1; left <= LUCKY_STEPS; left++) {
                for (int c = 0; c < lake.cells(); c++) {
                    luckFrom[left][c] = bestLuck(left, c, load);
                }
                long parts = inParts(luckFrom[left][from], left);
                // A CELL entered twice never betters the chance, so the fewest steps pass none twice.
                if (parts > chance) {
                    chance = parts;
                    steps = left;
                }
            }
            if (chance == 0L) {
                return false;
            }
            followLuck(load, from, steps);
            return true;
        }

        private int bestLuck(int left, int c, int load) {
            int best = 0;
            for (int k = 0; k < SIDES; k++) {
                best = Math.max(best, luckBy(left, c, k, load));
            }
            return best;
        }

        private int luckBy(int left, int c, int k, int load) {
            int d = lake.side[c * SIDES + k];
            if (d == NONE || room[d] < load || !mayStep(c, d)) {
                return 0;
            }
            return (10 - lake.weak[d]) * luckFrom[left - 1][d];
        }

        private static long inParts(int product, int steps) {
            long parts = product;
            for (int k = steps; k < LUCKY_STEPS; k++) {
                parts *= 10;
            }
            return parts;
        }

        private void followLuck(int load, int from, int steps) {
            path[0] = from;
            length = 1;
            for (int left = steps; left > 0 && length < MOST_CELLS; left--) {
                int c = path[length - 1];
                int k = 0;
                while (k < SIDES - 1 && luckBy(left, c, k, load) != luckFrom[left][c]) {
                    k++;
                }
                path[length++] = lake.side[c * SIDES + k];
            }
        }

        /** CELLS (bits) to which there is a WAY. */
        long reach(int load, int from) {
            long seen = bit(from);
            queue[0] = from;
            int last = 1;
            for (int i = 0; i < last && i < MOST_CELLS; i++) {
                int c = queue[i];
                for (int k = 0; k < SIDES; k++) {
                    int d = lake.side[c * SIDES + k];
                    if (d != NONE && !hasBit(seen, d) && room[d] >= load && mayStep(c, d)) {
                        seen |= bit(d);
                        queue[last++] = d;
                    }
                }
            }
            return seen & ~bit(from);
        }

        boolean reachesShore(int load, int from) {
            return hasBit(lake.shore, from) || (reach(load, from) & lake.shore) != 0L;
        }

        /** A SHOP that moves weighs nothing where it was. */
        private void surveyWithout(Scene scene, int s) {
            int here = scene.at[s];
            scene.lift(s, NONE);
            survey(scene, 0);
            scene.lower(s, here);
        }

        /** CELLS (bits) to which a standing SHOP can be moved. */
        long movesOf(Scene scene, int s) {
            surveyWithout(scene, s);
            long cells = reach(scene.weight[s], scene.at[s]) & ~law.barred;
            if (scene.stove[s] > 0) {
                for (int c = 0; c < lake.cells(); c++) {
                    if (hasBit(cells, c) && scene.isTooHot(s, c)) {
                        cells &= ~bit(c);
                    }
                }
            }
            return cells;
        }

        boolean canLeave(Scene scene, int s) {
            surveyWithout(scene, s);
            return reachesShore(scene.weight[s], scene.at[s]);
        }

        /** CELLS (bits) of SHORT in a STATE, NONE without a WAY. */
        long shortCells(Scene scene, int load, int from, int to) {
            survey(scene, 0);
            return findShort(load, from, to) ? pathCells() : NONE;
        }

        private long pathCells() {
            long cells = 0L;
            for (int i = 0; i < length; i++) {
                cells |= bit(path[i]);
            }
            return cells;
        }

        int fewestCuts(int load, int from, int to) {
            // No more than the CELLS beside the first one must go, if one can't step from it to the last one.
            for (int cuts = 0; cuts <= MOST_CUTS; cuts++) {
                if (isCutBy(cuts, load, from, to)) {
                    return cuts;
                }
            }
            return NONE;
        }

        /** Whether so many CELLS can go that there is no WAY: of each WAY one must, so of SHORT, too. */
        private boolean isCutBy(int cuts, int load, int from, int to) {
            if (!findShort(load, from, to)) {
                return true;
            }
            if (cuts <= 0) {
                return false;
            }
            long inner = pathCells() & ~bit(from) & ~bit(to);
            for (int c = 0; c < lake.cells(); c++) {
                if (hasBit(inner, c) && isCutWithout(c, cuts, load, from, to)) {
                    return true;
                }
            }
            return false;
        }

        private boolean isCutWithout(int c, int cuts, int load, int from, int to) {
            int was = room[c];
            room[c] = 0;
            boolean cut = isCutBy(cuts - 1, load, from, to);
            room[c] = was;
            return cut;
        }

        long neededCells(int load, int from, int to) {
            if (!findShort(load, from, to)) {
                return NONE;
            }
            long needed = 0L;
            for (int i = 1; i < length - 1; i++) {
                int c = path[i];
                int was = room[c];
                room[c] = 0;
                if (measure(load, from, to) == NONE) {
                    needed |= bit(c);
                }
                room[c] = was;
            }
            return needed;
        }

        int fewestAgainst(int load, int from, int to) {
            Arrays.fill(dist, NONE);
            dist[from] = 0;
            boolean better = true;
            for (int round = 0; round < MOST_CELLS && better; round++) {
                better = false;
                for (int c = 0; c < lake.cells(); c++) {
                    better |= dist[c] != NONE && betterBeside(c, load);
                }
            }
            return dist[to];
        }

        private boolean betterBeside(int c, int load) {
            boolean better = false;
            for (int k = 0; k < SIDES; k++) {
                int d = lake.side[c * SIDES + k];
                if (d != NONE && room[d] >= load) {
                    int against = dist[c] + (mayStep(c, d) ? 0 : 1);
                    if (dist[d] == NONE || against < dist[d]) {
                        dist[d] = against;
                        better = true;
                    }
                }
            }
            return better;
        }

        int thickerBy(Scene scene, int load, int from, int to) {
            for (int inches = 0; inches <= MOST_THICK; inches++) {
                survey(scene, inches);
                if (measure(load, from, to) != NONE) {
                    return inches;
                }
            }
            return NONE;
        }

        /** The PART of a CELL. */
        long joined(Lake ofLake, int from) {
            long seen = bit(from);
            queue[0] = from;
            int last = 1;
            for (int i = 0; i < last && i < MOST_CELLS; i++) {
                for (int k = 0; k < SIDES; k++) {
                    int d = ofLake.near[queue[i] * SIDES + k];
                    if (d != NONE && !hasBit(seen, d)) {
                        seen |= bit(d);
                        queue[last++] = d;
                    }
                }
            }
            return seen;
        }

        int partCount(Lake ofLake) {
            long seen = 0L;
            int parts = 0;
            for (int c = 0; c < ofLake.cells(); c++) {
                if (!hasBit(seen, c)) {
                    seen |= joined(ofLake, c);
                    parts++;
                }
            }
            return parts;
        }
    }

    /** Does ACTS. */
    private static final class Deeds {
        private final Ways ways;

        Deeds(Ways someWays) {
            ways = someWays;
        }

        /** Does an ACT; false, and nothing is done, if it can't be. */
        boolean perform(Scene scene, Plan plan, int i) {
            int a = plan.first[i];
            switch (plan.sorts[i]) {
                case ACT_DAY:
                    scene.passDay(scene.frost());
                    return true;
                case ACT_MOVE: return moveShop(scene, a, plan.second[i]);
                case ACT_OFF: return drawShop(scene, a);
                case ACT_GO: return ride(scene, a, plan.second[i], plan.third[i]);
                case ACT_SWEEP: return sweepCell(scene, a);
                default: return false;
            }
        }

        private boolean moveShop(Scene scene, int s, int c) {
            if (!scene.stands(s) || !scene.lake.isCell(c) || !hasBit(ways.movesOf(scene, s), c)) {
                return false;
            }
            scene.shift(s, c);
            return true;
        }

        private boolean drawShop(Scene scene, int s) {
            if (!scene.stands(s) || !ways.canLeave(scene, s)) {
                return false;
            }
            scene.drawOff(s);
            return true;
        }

        private boolean ride(Scene scene, int load, int from, int to) {
            if (!scene.lake.isCell(from) || !scene.lake.isCell(to)) {
                return false;
            }
            ways.survey(scene, 0);
            if (!ways.findShort(load, from, to)) {
                return false;
            }
            for (int i = 0; i < ways.length; i++) {
                scene.snow[ways.path[i]] = 0;
            }
            return true;
        }

        private boolean sweepCell(Scene scene, int c) {
            if (!scene.lake.isCell(c)) {
                return false;
            }
            scene.snow[c] = 0;
            return true;
        }
    }

    /** What DAYS to come bring. */
    private static final class Outlook {
        private final Ways ways;
        /** The DAYS go by in trial, behind what was changed in altered. */
        private final Scene trial;
        private final Scene altered;
        private final int[] held = new int[MOST_SHOPS];
        private final int[] heldAfter = new int[MOST_SHOPS];

        Outlook(Ways someWays, Lake firstLake, Law firstLaw) {
            ways = someWays;
            trial = new Scene(firstLake, firstLaw);
            altered = new Scene(firstLake, firstLaw);
        }

        /** HOLDS of a SHOP. */
        int daysHeld(Scene scene, int s) {
            trial.become(scene);
            for (int d = 0; d <= FAR_DAYS; d++) {
                if (!trial.stands(s)) {
                    return d;
                }
                trial.passDayUnderShops(trial.frost());
            }
            return FAR_DAYS + 1;
        }

        private void recordHeld(Scene scene, int[] days) {
            trial.become(scene);
            Arrays.fill(days, 0);
            for (int d = 0; d <= FAR_DAYS; d++) {
                for (int s = 0; s < MOST_SHOPS; s++) {
                    if (trial.stands(s)) {
                        days[s] = d + 1;
                    }
                }
                trial.passDayUnderShops(trial.frost());
            }
        }

        int safestCell(Scene scene, int s) {
            int here = scene.at[s];
            long cells = ways.movesOf(scene, s) | bit(here);
            int best = here;
            int longest = NONE;
            for (int c = 0; c < scene.lake.cells(); c++) {
                if (hasBit(cells, c)) {
                    altered.become(scene);
                    if (c != here) {
                        altered.shift(s, c);
                    }
                    int days = daysHeld(altered, s);
                    if (days > longest) {
                        longest = days;
                        best = c;
                    }
                }
            }
            return best;
        }

        int worstStove(Scene scene) {
            recordHeld(scene, held);
            int worst = NONE;
            int most = 0;
            for (int s = 0; s < scene.lake.shopCount; s++) {
                int longer = scene.stands(s) ? heldLongerWithout(scene, s) : 0;
                if (longer > most) {
                    most = longer;
                    worst = s;
                }
            }
            return worst;
        }

        private int heldLongerWithout(Scene scene, int s) {
            altered.become(scene);
            altered.putOut(s);
            recordHeld(altered, heldAfter);
            int longer = 0;
            for (int t = 0; t < scene.lake.shopCount; t++) {
                if (t != s && heldAfter[t] > held[t]) {
                    longer++;
                }
            }
            return longer;
        }

        int longestFair(Scene scene, int weight, int w, int h, boolean asDays) {
            long blocks = blocksOf(scene, firmCells(scene, weight), w, h);
            if (blocks == 0L) {
                return NONE;
            }
            int days = 0;
            for (int d = 1; d <= FAR_DAYS; d++) {
                scene.passDay(scene.frost());
                long left = blocks & blocksOf(scene, firmCells(scene, weight), w, h);
                if (left == 0L) {
                    break;
                }
                blocks = left;
                days = d;
            }
            return asDays ? days : lowestBit(blocks);
        }

        /** CELLS (bits) without a SHOP that BEAR a weight and their LOAD. */
        private static long firmCells(Scene scene, int weight) {
            long firm = 0L;
            for (int c = 0; c < scene.lake.cells(); c++) {
                if (scene.bears(c) >= weight + scene.load[c]) {
                    firm |= bit(c);
                }
            }
            return firm & ~scene.shopCells();
        }

        /** Upper left CELLS (bits) of blocks that are firm all over. */
        private static long blocksOf(Scene scene, long firm, int w, int h) {
            int wide = scene.lake.wide;
            long block = 0L;
            for (int row = 0; row < h; row++) {
                for (int column = 0; column < w; column++) {
                    block |= bit(row * wide + column);
                }
            }
            long corners = 0L;
            for (int row = 0; row + h <= scene.lake.high; row++) {
                for (int column = 0; column + w <= wide; column++) {
                    int c = row * wide + column;
                    if ((block << c & ~firm) == 0L) {
                        corners |= bit(c);
                    }
                }
            }
            return corners;
        }

        /** The first DAY to come with a WAY, or without one; the STATE is as behind it then. */
        int firstDayWith(Scene scene, boolean aWay, int load, int from, int to) {
            for (int d = 0; d <= FAR_DAYS; d++) {
                ways.survey(scene, 0);
                if ((ways.measure(load, from, to) != NONE) == aWay) {
                    return d;
                }
                scene.passDay(scene.frost());
            }
            return NONE;
        }

        int firstWater(Scene scene) {
            altered.become(scene);
            for (int d = 1; d <= FAR_DAYS; d++) {
                scene.passDay(scene.frost());
                for (int c = 0; c < scene.lake.cells(); c++) {
                    if (scene.thick[c] == 0 && altered.thick[c] != 0) {
                        return c;
                    }
                }
            }
            return NONE;
        }

        boolean fallsBySeed(Scene scene, int s, int seed, int days) {
            trial.become(scene);
            int x = seed;
            for (int d = 0; d < days && trial.stands(s); d++) {
                x = nextDraw(x);
                trial.passDayUnderShops(trial.frost() + drawnFrost(x));
            }
            return !trial.stands(s);
        }

        private boolean fallsByFrost(Scene scene, int s, int f, int days) {
            trial.become(scene);
            for (int d = 0; d < days && trial.stands(s); d++) {
                trial.passDayUnderShops(f);
            }
            return !trial.stands(s);
        }

        /** One by one: a colder row of DAYS may also keep others standing, whose LOAD and STOVES harm it. */
        int leastFrost(Scene scene, int s, int days) {
            for (int f = -20; f <= 20; f++) {
                if (!fallsByFrost(scene, s, f, days)) {
                    return f;
                }
            }
            return NO_ANSWER;
        }

        int bestSwept(Scene scene, int s) {
            int unswept = daysHeld(scene, s);
            long shops = scene.shopCells();
            int best = NONE;
            int longest = NONE;
            for (int c = 0; c < scene.lake.cells(); c++) {
                int days = unswept;
                // SNOW where no SHOP stands keeps no SHOP from FALLING, nor lets it.
                if (scene.snow[c] > 0 && hasBit(shops, c)) {
                    altered.become(scene);
                    altered.snow[c] = 0;
                    days = daysHeld(altered, s);
                }
                if (days > longest) {
                    longest = days;
                    best = c;
                }
            }
            return best;
        }

        int heavier(Scene scene, int s) {
            for (int more = 0; more < 99; more++) {
                scene.makeHeavier(s);
                if (scene.nextToFall() != NONE) {
                    return more;
                }
            }
            return 99;
        }

        int latestLeave(Scene scene, int s) {
            int latest = NONE;
            for (int d = 0; d <= FAR_DAYS && scene.stands(s); d++) {
                if (ways.canLeave(scene, s)) {
                    latest = d;
                }
                scene.passDay(scene.frost());
            }
            return latest;
        }
    }

    /** In which order SHOPS are DRAWN off. */
    private static final class Drawing {
        int bestWorth;
        final int[] best = new int[DRAWN_DAYS];

        private final Ways ways;
        private final int[] row = new int[DRAWN_DAYS];
        /** The STATE at each DAY's beginning. */
        private final Scene[] scenes = new Scene[DRAWN_DAYS + 1];
        private final Scene hoped;
        private int days;

        Drawing(Ways someWays, Lake firstLake, Law firstLaw) {
            ways = someWays;
            for (int d = 0; d <= DRAWN_DAYS; d++) {
                scenes[d] = new Scene(firstLake, firstLaw);
            }
            hoped = new Scene(firstLake, firstLaw);
        }

        void ready(Scene scene, int manyDays) {
            days = Math.min(manyDays, DRAWN_DAYS);
            scenes[0].become(scene);
            bestWorth = BEYOND_WORTH;
        }

        /** Rows are tried in their order, none last: of several with the least WORTH the first one stays. */
        private void tryDay(int d) {
            Scene scene = scenes[d];
            if (d >= days) {
                keepBetter(scene.worthNotOff());
                return;
            }
            if (worthAtLeast(scene, days - d, shopsWithHope(scene, days - d)) >= bestWorth) {
                return;
            }
            for (int s = 0; s < scene.lake.shopCount; s++) {
                if (scene.stands(s) && ways.canLeave(scene, s)) {
                    tryShop(d, s);
                }
            }
            tryShop(d, NONE);
        }

        private void tryShop(int d, int s) {
            Scene next = scenes[d + 1];
            next.become(scenes[d]);
            if (s != NONE) {
                next.drawOff(s);
            }
            next.passDay(next.frost());
            row[d] = s;
            tryDay(d + 1);
        }

        private void keepBetter(int worth) {
            if (worth < bestWorth) {
                bestWorth = worth;
                System.arraycopy(row, 0, best, 0, days);
            }
        }

        /** What stays, were the dearest of the hopeful ones (bits) to go off on all DAYS that are left. */
        private static int worthAtLeast(Scene scene, int daysLeft, int hopeful) {
            int worth = scene.worthNotOff();
            int left = hopeful;
            for (int k = 0; k < daysLeft && left != 0; k++) {
                int dearest = NONE;
                for (int s = 0; s < scene.lake.shopCount; s++) {
                    boolean dearer = dearest == NONE || scene.lake.worth[s] > scene.lake.worth[dearest];
                    if ((left >> s & 1) != 0 && dearer) {
                        dearest = s;
                    }
                }
                if (dearest != NONE) {
                    left &= ~(1 << dearest);
                    worth -= scene.lake.worth[dearest];
                }
            }
            return worth;
        }

        /** SHOPS (bits) that could go off, were each alone, no ice thinner any day, and none warmed. */
        private int shopsWithHope(Scene scene, int daysLeft) {
            hoped.become(scene);
            for (int s = 0; s < scene.lake.shopCount; s++) {
                if (scene.at[s] >= 0) {
                    hoped.lift(s, NONE);
                }
            }
            for (int k = 1; k < daysLeft; k++) {
                hoped.passDay(Math.max(0, hoped.frost()));
            }
            ways.survey(hoped, 0);
            int hopeful = 0;
            for (int s = 0; s < scene.lake.shopCount; s++) {
                if (scene.at[s] >= 0 && ways.reachesShore(scene.weight[s], scene.at[s])) {
                    hopeful |= 1 << s;
                }
            }
            return hopeful;
        }
    }

    /** A load on its SHORT, for MEET and PAUSE. */
    private static final class Route {
        private int load;
        private int length;
        private final int[] cells = new int[MOST_CELLS];

        boolean take(Ways ways, int ofLoad, int way) {
            load = ofLoad;
            if (!ways.findShort(ofLoad, way % 100, way / 100)) {
                return false;
            }
            length = ways.length;
            System.arraycopy(ways.path, 0, cells, 0, length);
            return true;
        }

        int minuteMet(Scene scene, Route other, int later) {
            for (int t = 0; t < length; t++) {
                int u = t - later;
                if (u >= 0 && u < other.length && clashes(scene, cells[t], other, other.cells[u])) {
                    return t;
                }
            }
            return NONE;
        }

        int fewestLater(Scene scene, Route other) {
            for (int later = 0; later <= MOST_PAUSE; later++) {
                if (minuteMet(scene, other, later) == NONE) {
                    return later;
                }
            }
            return NONE;
        }

        private boolean clashes(Scene scene, int c, Route other, int d) {
            if (c == d) {
                return true;
            }
            boolean near = scene.lake.steps(c, d) == 1 && !hasBit(scene.lake.cracks[c], d);
            return near && (breaks(scene, c, load, other.load) || breaks(scene, d, other.load, load));
        }

        private static boolean breaks(Scene scene, int c, int own, int others) {
            return scene.bears(c) < own + scene.load[c] + scene.law.shareOf(others);
        }
    }
}
