/** DAYS to come of Terms 3 to 5 and promises 19 to 23, 27, 30 to 33, sentence by sentence. */
final class EdgeDays {
    /** SHOP 1's STOVE takes an inch a DAY from SHOP 0's ice, under SNOW; its own stays as it is by the frost. */
    private static final String WARMED = "size 3 2;all 30;snow 0 9;frost 2;shop 0 9 0 1;shop 1 9 2 1;";

    private final Edge e;

    EdgeDays(Edge edge) {
        e = edge;
    }

    /** What is asked of a SHOP. */
    interface OfShop {
        long of(IceStreet x, int lake, int law, int plan, int n, int shop);
    }

    void all() {
        holds();
        fair();
        drawn();
        setting();
        hearth();
        gulls();
        winters();
        fallen();
        swept();
        cold();
        heavier();
        latest();
        promisedHolds();
        promisedFair();
        promisedDrawn();
        promisedSetHearthGulls();
        promisedWinter();
        promisedFallen();
        promisedShopping();
        promisedCold();
    }

    private static IceStreet street(String lake) {
        return Check.street(lake, "share 0;", "");
    }

    private static int held(String lake) {
        return street(lake).holds(0, 0, 0, 0, 0);
    }

    private void holds() {
        e.section("Terms 3");
        e.tells("DAYS to come: as by day, again and again.");
        // 20 inches bear 40, 19 bear 36, 18 bear 32.
        IceStreet x = Check.street("frost -1 0 0;shop 0 36 0 1;", "", "day;day;day;");
        e.at("behind the second -1", x.holds(0, 0, 0, 0, 0), 4);
        e.at("from DAY 1 on", x.holds(0, 0, 0, 1, 0), 3);
        e.at("from DAY 2 on", x.holds(0, 0, 0, 2, 0), 2);
        e.at("from DAY 3 on", x.holds(0, 0, 0, 3, 0), 1);
        e.at("a STATE stays as it is", x.state(0, 0, 0, 3, 10), 0);

        e.says("HOLDS of a SHOP that stands: behind how many DAYS it FALLS first, "
            + "60 at most (61: behind none of these).");
        e.at("1", held("frost -1;shop 0 40 0 1;"), 1);
        e.at("2", held("frost -1;shop 0 36 0 1;"), 2);
        e.at("60", held("all 80;frost -1;shop 0 41 0 1;"), 60);
        e.beyond("61", held("all 80;frost -1;shop 0 40 0 1;"), 61);
        e.beyond("62 is none of these", held("all 80;frost -1;shop 0 36 0 1;"), 61);
        e.beyond("never", held("shop 0 40 0 1;"), 61);
        e.at("by its own STOVE", held("shop 0 36 1 1;"), 2);
        // 30 and the half of 20 are too much for 19 inches; when SHOP 0 fell, 15 inches bear the other one's 20.
        x = Check.street("frost -1;shop 0 30 0 1;shop 1 20 0 1;", "", "");
        e.at("by another one's LOAD", x.holds(0, 0, 0, 0, 0), 1);
        e.at("when the other one fell", x.holds(0, 0, 0, 0, 1), 6);
    }

    private void fair(String what, String lake, int weight, int w, int h, int cell, int days) {
        IceStreet x = Check.street(lake, "", "");
        if (cell < 0) {
            e.beyond(what, x.fair(0, 0, 0, 0, weight, w, h, false), -1);
            e.beyond(what + ", DAYS", x.fair(0, 0, 0, 0, weight, w, h, true), -1);
        } else {
            e.at(what, x.fair(0, 0, 0, 0, weight, w, h, false), cell);
            e.at(what + ", DAYS", x.fair(0, 0, 0, 0, weight, w, h, true), days);
        }
    }

    private void fair() {
        e.says("FAIR by a weight, w by h: blocks of CELLS, none with a SHOP, each of which BEARS the weight and its LOAD now:");
        fair("40", "size 3 2;", 40, 3, 2, 0, 60);
        fair("41", "size 3 2;", 41, 1, 1, -1, 0);
        fair("3 by 1", "size 3 2;", 1, 3, 1, 0, 60);
        fair("1 by 2", "size 3 2;", 1, 1, 2, 0, 60);
        fair("1 by 3", "size 3 2;", 1, 1, 3, -1, 0);
        fair("4 by 1", "size 3 2;", 1, 4, 1, -1, 0);
        fair("2 by 3 of 2 by 3", "size 2 3;", 1, 2, 3, 0, 60);
        fair("6 by 6 of 6 by 6", "size 6 6;", 1, 6, 6, 0, 60);
        fair("6 by 6 of 6 by 5", "size 6 5;", 1, 6, 6, -1, 0);
        fair("beside a thin CELL", "size 3 2;ice 1 3;", 1, 1, 2, 0, 60);
        fair("2 by 1 below it", "size 3 2;ice 1 3;", 1, 2, 1, 3, 60);
        fair("2 by 2 with it", "size 3 2;ice 1 3;", 1, 2, 2, -1, 0);
        fair("2 by 2 with one below", "size 3 2;ice 4 3;", 1, 2, 2, -1, 0);
        fair("2 by 2 beside one below", "size 3 2;ice 3 3;", 1, 2, 2, 1, 60);
        fair("2 by 3 with one below", "size 3 3;ice 6 3;", 1, 2, 3, 1, 60);
        fair("6 by 6 without the last", "size 6 6;ice 35 3;", 1, 6, 6, -1, 0);
        fair("5 by 6 without the last", "size 6 6;ice 35 3;", 1, 5, 6, 0, 60);
        fair("5 by 6 without the first", "size 6 6;ice 0 3;", 1, 5, 6, 1, 60);
        fair("6 by 5 without the first", "size 6 6;ice 0 3;", 1, 6, 5, 6, 60);
        fair("6 by 5 without the last of the second row", "size 6 6;ice 11 3;", 1, 6, 5, -1, 0);
        fair("beside a SHOP, 35 and 5", "size 2 2;shop 0 10 0 1;", 35, 1, 1, 1, 60);
        fair("beside a SHOP, 36 and 5", "size 2 2;shop 0 10 0 1;", 36, 1, 1, 3, 60);
        fair("with a SHOP", "size 2 2;shop 0 10 0 1;", 1, 2, 2, -1, 0);
        fair("a block below a SHOP", "size 2 2;shop 0 10 0 1;", 1, 2, 1, 2, 60);
        fair("where a SHOP fell", "size 2 2;shop 0 41 0 1;", 1, 2, 2, -1, 0);

        e.says("that which does so behind the most DAYS from now on without a break, 60 at most;");
        fair("0 DAYS", "frost -1;", 40, 1, 1, 0, 0);
        fair("1 DAY", "frost -1;", 36, 1, 1, 0, 1);
        fair("the most DAYS", "ice 9 21;ice 13 22;frost -1;", 36, 1, 1, 13, 3);
        fair("of a block, too", "ice 9 21;ice 13 22;frost -1;", 36, 1, 2, 9, 2);
        fair("a break", "ice 9 21;frost -1 1;", 40, 1, 1, 9, 60);
        fair("a break for all", "frost -1 1;", 40, 1, 1, 0, 0);
        fair("59", "bear 1;all 60;frost -1;", 1, 1, 1, 0, 59);
        fair("60", "bear 1;all 61;frost -1;", 1, 1, 1, 0, 60);
        fair("60 at most", "bear 1;all 62;frost -1;", 1, 1, 1, 0, 60);
        e.beyond("not now", Check.street("all 19;frost 1;", "", "").fair(0, 0, 0, 0, 40, 1, 1, true), -1);

        e.says("of several the least by its upper left CELL.");
        fair("all", "", 40, 2, 2, 0, 60);
        fair("all but the first", "ice 0 19;", 40, 2, 2, 1, 60);
        fair("all but the first row", "ice 0 19;ice 2 19;", 40, 2, 2, 4, 60);
        fair("those beyond 60 are no better", "bear 1;all 70;ice 0 61;frost -1;", 1, 1, 1, 0, 60);
        fair("59 is less", "bear 1;all 70;ice 0 60;frost -1;", 1, 1, 1, 1, 60);
        fair("none", "all 19;", 40, 2, 2, -1, 0);
    }

    private void draws(String what, IceStreet x, int n, int days, int worth, int... row) {
        e.at(what + ", WORTH", x.drawn(0, 0, 0, n, days, 0), worth);
        for (int d = 0; d < days; d++) {
            e.at(what + ", DAY " + d, x.drawn(0, 0, 0, n, days, 10 + d), row[d]);
        }
        e.beyond(what + ", behind the last DAY", x.drawn(0, 0, 0, n, days, 10 + days), -2);
    }

    private void drawn() {
        e.says("DRAWN in so many DAYS, 1 to 6:");
        String shops = "shore 0 1 2 3 4 5;shop 0 1 0 1;shop 1 1 0 2;shop 2 1 0 4;shop 3 1 0 8;shop 4 1 0 16;shop 5 1 0 32;";
        IceStreet x = street(shops);
        draws("in 1", x, 0, 1, 31, 5);
        draws("in 2", x, 0, 2, 15, 4, 5);
        draws("in 5", x, 0, 5, 1, 1, 2, 3, 4, 5);
        draws("in 6", x, 0, 6, 0, 0, 1, 2, 3, 4, 5);
        e.beyond("in 0", x.drawn(0, 0, 0, 0, 0, 0), -2);
        e.beyond("in 7", x.drawn(0, 0, 0, 0, 7, 0), -2);

        e.says("at each DAY's beginning one SHOP, or none, goes off (if by off it can; SHOPS FALL behind it, too), "
            + "then it is as by day:");
        // 19 inches bear 36, but not 37, on the second DAY.
        String both = "size 2 2;frost -1;shore 1;shop 0 WW 0 5;shop 3 WW 0 7;";
        draws("both in two DAYS", street(both.replace("WW", "36")), 0, 2, 0, 0, 1);
        draws("one, and the other one falls", street(both.replace("WW", "37")), 0, 2, 5, 1, -1);
        draws("a WAY that is too thin", street("size 2 2;ice 1 10;shore 1;shop 0 10 0 5;"), 0, 1, 0, 0);
        draws("a WAY that is too thin", street("size 2 2;ice 1 9;shore 1;shop 0 10 0 5;"), 0, 1, 5, -1);
        draws("a WAY that will be thick", street("size 2 2;ice 1 9;frost 1;shore 1;shop 0 10 0 5;"), 0, 2, 0, -1, 0);
        draws("one that is in the way", street("size 2 2;ice 2 0;ice 3 0;shore 1;shop 0 10 0 5;shop 1 10 0 5;"), 0, 2, 0, 1, 0);
        draws("no SHORE", street("shop 0 10 0 5;"), 0, 1, 5, -1);

        e.says("rows of these, by which the WORTH of all that are not off behind the last DAY is least;");
        x = Check.street("size 3 2;shore 0 1;frost -20;shop 0 10 0 5;shop 1 41 0 9;shop 3 10 0 7;shop 5 10 0 3;", "share 0;",
            "off 0;");
        draws("one that fell counts, and those that stand", x, 0, 1, 9 + 7 + 3, 0);
        draws("one that is off does not", x, 1, 1, 9 + 3, 2);
        draws("none left", street(""), 0, 1, 0, -1);
        drawnLate();
        draws("the greatest WORTH", street("all 0;shop 0 1 0 99;shop 1 1 0 99;shop 2 1 0 99;shop 3 1 0 99;shop 4 1 0 99;"
            + "shop 5 1 0 99;"), 0, 1, 594, -1);

        e.says("of several the first by rows of SHOPS, none being behind all.");
        x = street("shore 0 1;shop 0 10 0 5;shop 1 10 0 5;");
        draws("the least SHOP first", x, 0, 1, 5, 0);
        draws("the least SHOP first", x, 0, 2, 0, 0, 1);
        draws("none is behind all", x, 0, 4, 0, 0, 1, -1, -1);
        draws("one without WORTH", street("shore 0 1;shop 0 10 0 0;"), 0, 3, 0, 0, -1, -1);
        draws("one without WORTH behind a dear one", street("shore 0 1;shop 0 10 0 9;shop 1 10 0 0;"), 0, 1, 0, 0);
        draws("a dear one", street("shore 0 1;shop 0 10 0 0;shop 1 10 0 9;"), 0, 1, 0, 1);
        draws("both", street("shore 0 1;shop 0 10 0 0;shop 1 10 0 9;"), 0, 2, 0, 0, 1);
    }

    /** A dear one can go on a later DAY alone, so that rows which begin with a cheap one are worse. */
    private void drawnLate() {
        draws("its WAY bears it on the third DAY", street("size 3 2;ice 0 4;ice 2 8;ice 3 4;frost 1;shore 0 2 3;"
            + "shop 0 1 0 1;shop 2 4 0 5;shop 3 1 0 5;shop 5 10 0 9;"), 0, 3, 1, 1, 2, 3);
        draws("its WAY is free when SHOP 2 is off", street("size 3 2;ice 0 4;ice 3 4;shore 0 2 3;"
            + "shop 0 1 0 1;shop 3 1 0 5;shop 2 4 0 5;shop 5 10 0 9;"), 0, 3, 1, 1, 2, 3);
        draws("its WAY is free when CELL 0 is", street("size 3 2;ice 2 4;ice 5 4;shore 0 2 5;"
            + "shop 2 1 0 1;shop 5 1 0 5;shop 0 4 0 5;shop 3 10 0 9;"), 0, 3, 1, 1, 2, 3);
        draws("it is SHOP 0 in CELL 0", street("size 3 2;ice 1 4;ice 2 4;ice 5 4;shore 2 3 5;"
            + "shop 0 10 0 9;shop 2 1 0 1;shop 3 4 0 5;shop 5 1 0 5;"), 0, 3, 1, 2, 0, 3);
    }

    private void set(String what, String lake, String law, int cell) {
        e.at(what, Check.street(lake, law, "").set(0, 0, 0, 0, 0), cell);
    }

    private void setting() {
        e.section("Terms 4");
        e.says("SET of a SHOP: the CELL to which it can be moved, or where it is, where it HOLDS longest; "
            + "of several the least.");
        String lake = "size 3 2;ice 5 21;frost -1;shop 4 36 0 1;";
        set("one DAY longer", lake, "", 5);
        set("BARRED", lake, "bar 5;", 0);
        set("no WAY", lake, "lane 5 4;lane 5 2;", 0);
        set("where it is", lake, "least 99;", 4);
        set("where it is longest", "size 3 2;ice 4 21;frost -1;shop 4 36 0 1;", "", 4);
        set("of several the least", "size 3 2;frost -1;shop 4 36 0 1;", "", 0);
        set("of several the least, not the first two", "size 3 2;ice 0 19;ice 1 19;frost -1;shop 4 36 0 1;", "", 2);
        set("those beyond 60 are no better", "size 3 2;bear 1;all 95;ice 0 61;frost -1;shop 4 1 0 1;", "", 0);
        set("60 is less than 61", "size 3 2;bear 1;all 95;ice 0 60;frost -1;shop 4 1 0 1;", "", 1);
        set("where it is, though BARRED", "size 3 2;ice 4 21;frost -1;shop 4 36 0 1;", "bar 4;", 4);
        set("APART of another STOVE", "size 3 2;frost -1;shop 5 36 1 1;shop 0 1 1 1;", "apart 3;", 5);
        e.beyond("APART by one step less", Check.street("size 3 2;frost -1;shop 5 36 1 1;shop 0 1 1 1;", "apart 2;", "")
            .set(0, 0, 0, 0, 0), 2);
        e.beyond("a CELL where another one is", Check.street("size 2 2;ice 1 50;ice 2 0;frost -1;shop 0 36 0 1;shop 1 1 0 1;",
            "share 0;", "").set(0, 0, 0, 0, 0), 0);
    }

    private void hearth() {
        e.says("HEARTH: that of SHOPS standing, whose STOVE, put out, makes most other ones HOLD longer, one at least; "
            + "of several the least.");
        // 0 1 2     SHOP 1's STOVE warms 0 and 2, SHOP 3's warms 0 alone.
        // 3 . .
        String row = "size 3 2;all 30;shop 0 9 0 1;shop 1 9 2 1;shop 2 9 0 1;shop 3 9 2 1;";
        e.at("most other ones", street(row).hearth(0, 0, 0, 0), 1);
        e.at("one at least", street(WARMED).hearth(0, 0, 0, 0), 1);
        e.beyond("the half of 1 is 0", street(WARMED.replace("9 2 1", "9 1 1")).hearth(0, 0, 0, 0), -1);
        e.beyond("its own does not count", street("size 3 2;all 30;shop 0 9 9 1;shop 5 9 9 1;").hearth(0, 0, 0, 0), -1);
        e.beyond("a CRACK between", street("size 3 2;all 30;crack 0 1;shop 0 9 0 1;shop 1 9 9 1;").hearth(0, 0, 0, 0), -1);
        e.at("of several the least", street("size 3 2;all 30;shop 0 9 2 1;shop 1 9 2 1;").hearth(0, 0, 0, 0), 0);
        e.beyond("its LOAD stays", Check.street("frost -1;shop 0 30 0 1;shop 1 20 1 1;", "", "").hearth(0, 0, 0, 0), -1);
        String long60 = "size 2 2;all 80;snow 0 9;frost 2;shop 0 41 0 1;shop 1 1 2 1;";
        e.at("60 DAYS become 61", street(long60).hearth(0, 0, 0, 0), 1);
        e.beyond("61 can't become more", street(long60.replace("0 41", "0 40")).hearth(0, 0, 0, 0), -1);
        IceStreet x = Check.street(WARMED + "shore 1;", "share 0;", "off 1;");
        e.at("it stands", x.hearth(0, 0, 0, 0), 1);
        e.beyond("it is off", x.hearth(0, 0, 0, 1), -1);
    }

    private void gulls() {
        e.says("GULLS: the CELL, not 0 THICK now, that is so first, behind 60 DAYS at most; of several the least.");
        e.at("behind 1", street("all 9;ice 7 1;ice 3 0;frost -1;").gulls(0, 0, 0, 0), 7);
        e.at("behind 60", street("all 60;frost -1;").gulls(0, 0, 0, 0), 0);
        e.beyond("behind 61", street("all 61;frost -1;").gulls(0, 0, 0, 0), -1);
        e.at("of several the least", street("all 9;ice 7 4;ice 6 4;ice 5 5;frost -1;").gulls(0, 0, 0, 0), 6);
        e.beyond("0 THICK now", street("all 0;frost -1;").gulls(0, 0, 0, 0), -1);
        e.at("CELL 35", street("size 6 6;all 9;ice 35 8;frost -1;").gulls(0, 0, 0, 0), 35);
        e.beyond("none of 6 by 6", street("size 6 6;").gulls(0, 0, 0, 0), -1);
        e.beyond("0 THICK now, and again", street("size 2 2;all 99;ice 0 0;frost 1 -1;").gulls(0, 0, 0, 0), -1);
        e.at("where a SHOP falls", street("all 20;ice 1 3;frost -1;shop 9 40 0 1;").gulls(0, 0, 0, 0), 9);
        e.at("before one falls", street("all 20;ice 1 1;frost -1;shop 9 36 0 1;").gulls(0, 0, 0, 0), 1);
    }

    /** Numbers below 7, less 3, by the document's words, in long arithmetic. */
    private static int[] numbers(int seed, int many) {
        int[] drawn = new int[many];
        long x = seed & 0xffffffffL;
        for (int d = 0; d < many; d++) {
            // x * 1103515245 may be beyond 63 bits; its low 32 are all that counts.
            x = x * 1103515245L + 12345L & 0xffffffffL;
            drawn[d] = (int) ((x >> 16) % 7) - 3;
        }
        return drawn;
    }

    private void winters() {
        e.tells("WINTERS by a SEED, x; a number below n is drawn: x becomes x * 1103515245 + 12345 (of 32 bits), "
            + "it is x shifted right by 16 without sign, remainder by n:");
        IceStreet x = street("all 50;");
        for (int seed : new int[] {0, 1, 2, -1, 7, 12345, Integer.MIN_VALUE, Integer.MAX_VALUE}) {
            int[] drawn = numbers(seed, 5);
            int thick = 50;
            for (int d = 0; d < 5; d++) {
                thick += drawn[d];
                e.at("SEED " + seed + ", DAYS " + (d + 1), x.winter(0, 0, 0, 0, seed, d + 1, 100), thick);
            }
        }
        // By hand: 0 becomes 12345, 0 shifted; 12345 becomes 3554416254, 54236 shifted, 0 by 7.
        e.at("SEED 0, two DAYS", x.winter(0, 0, 0, 0, 0, 2, 100), 50 - 3 - 3);

        e.tells("each DAY to come has as F that number of FROSTS and a number below 7, less 3.");
        IceStreet y = Check.street("all 50;frost 5 -7 0;snow 1 4;", "", "day;");
        for (int n = 0; n < 2; n++) {
            int[] frosts = {5, -7, 0};
            int[] drawn = numbers(99, 6);
            int plain = n == 0 ? 50 : 55;
            int snowy = n == 0 ? 50 : 51;
            for (int d = 0; d < 6; d++) {
                int f = frosts[(d + n) % 3] + drawn[d];
                plain += f;
                snowy += f > 0 ? Math.max(0, f - 4) : f;
                e.at("DAYS " + (d + 1) + " from " + n, y.winter(0, 0, 0, n, 99, d + 1, 100), plain);
                e.at("DAYS " + (d + 1) + " from " + n + ", SNOW", y.winter(0, 0, 0, n, 99, d + 1, 101), snowy);
            }
        }
        // 20 and 3, or -20 and -3, are no numbers of FROSTS, but F all the same.
        int coldSeed = seedOfFirst(3);
        e.at("20 and 3", street("all 50;frost 20;").winter(0, 0, 0, 0, coldSeed, 1, 100), 73);
        int warmSeed = seedOfFirst(-3);
        e.at("-20 less 3", street("all 50;frost -20;").winter(0, 0, 0, 0, warmSeed, 1, 100), 27);
    }

    private static int seedOfFirst(int number) {
        for (int seed = 0; seed < 1000; seed++) {
            if (numbers(seed, 1)[0] == number) {
                return seed;
            }
        }
        return 0;
    }

    /** In how many WINTERS the ice is once below 20 inches. */
    private static int thinWinters(int seed, int w, int days) {
        int many = 0;
        for (int k = 0; k < w; k++) {
            int thick = 25;
            boolean thin = false;
            for (int number : numbers(seed + k, days)) {
                thick = Math.min(99, thick + number);
                thin |= thick < 20;
            }
            many += thin ? 1 : 0;
        }
        return many;
    }

    private void fallen() {
        e.says("FALLEN of w SEEDS, SEED, SEED + 1, ..: in how many a SHOP that stands FALLS within so many DAYS.");
        IceStreet x = street("all 25;shop 0 40 0 1;");
        for (int w = 1; w <= 9; w++) {
            e.at(w + " SEEDS, 9 DAYS", x.fallen(0, 0, 0, 0, 17, w, 9, 0), thinWinters(17, w, 9));
        }
        for (int days = 0; days <= 12; days++) {
            e.at("9 SEEDS, DAYS " + days, x.fallen(0, 0, 0, 0, 400, 9, days, 0), thinWinters(400, 9, days));
        }
        e.at("SEEDS come round", x.fallen(0, 0, 0, 0, Integer.MAX_VALUE - 3, 9, 8, 0),
            thinWinters(Integer.MAX_VALUE - 3, 9, 8));
        int warm = seedOfFirst(-1);
        e.at("within one DAY", street("all 20;shop 0 37 0 1;").fallen(0, 0, 0, 0, warm, 1, 1, 0), 1);
        e.beyond("within none", street("all 20;shop 0 37 0 1;").fallen(0, 0, 0, 0, warm, 1, 0, 0), 0);
        e.beyond("a lighter one", street("all 20;shop 0 36 0 1;").fallen(0, 0, 0, 0, warm, 1, 1, 0), 0);
        e.at("another SHOP", street("all 25;shop 1 1 0 1;shop 0 40 0 1;").fallen(0, 0, 0, 0, 17, 9, 9, 1),
            thinWinters(17, 9, 9));
        e.beyond("one that HOLDS", street("all 99;shop 1 1 0 1;").fallen(0, 0, 0, 0, 17, 9, 9, 0), 0);
    }

    private void swept() {
        e.section("Terms 5");
        e.says("SWEPT for a SHOP: the CELL by which, swept now (by sweep), it HOLDS longest; of several the least.");
        // With SNOW its ice loses 1 inch a DAY, without it is as it is.
        e.at("its own CELL", shopping("frost 1;snow 5 1;snow 4 9;shop 5 30 1 1;", 0), 5);
        e.beyond("no SNOW there", shopping("frost 1;snow 4 9;shop 5 30 1 1;", 0), 0);
        e.at("CELL 35", shopping("size 6 6;frost 1;snow 35 1;snow 4 9;shop 35 30 1 1;", 0), 35);
        e.at("of several the least", shopping("shop 5 30 0 1;", 0), 0);
        e.beyond("no longer, whichever", shopping("frost -1;snow 5 1;shop 5 30 1 1;", 0), 0);
        e.beyond("beyond 60 is no longer", shopping("all 99;frost 1;snow 5 1;bear 1;shop 5 30 1 1;", 0), 0);
        e.at("60 DAYS become 61", shopping("all 65;frost 1;snow 5 1;bear 1;shop 5 30 1 1;", 0), 5);
        // The SHOP beside it, swept, stands and warms it longer: not that CELL.
        e.at("another one's CELL is not swept", Check.street("size 2 2;frost 1;snow 0 1;snow 1 1;shop 1 30 0 1;shop 0 9 4 9;",
            "share 0;", "").shopping(0, 0, 0, 0, 0, 0), 1);
    }

    private static int shopping(String lake, int what) {
        return Check.street(lake, "share 0;", "").shopping(0, 0, 0, 0, 0, what);
    }

    private void cold(String what, String lake, int days, int want) {
        int got = street(lake).cold(0, 0, 0, 0, 0, days);
        if (want == -100) {
            e.beyond(what, got, want);
        } else {
            e.at(what, got, want);
        }
    }

    private void cold() {
        e.says("COLD of a SHOP and so many DAYS, 1 .. 60: the least F, -20 .. 20, by which, on all DAYS to come, "
            + "it does not FALL within these.");
        cold("-20 for 4 DAYS", "bear 1;all 99;shop 0 1 0 1;", 4, -20);
        cold("-19 for 5 DAYS", "bear 1;all 99;shop 0 1 0 1;", 5, -19);
        cold("-1 for 60 DAYS", "bear 1;all 61;shop 0 1 0 1;", 60, -1);
        cold("0 for 60 DAYS", "bear 1;all 60;shop 0 1 0 1;", 60, 0);
        cold("-1 for 59 DAYS", "bear 1;all 60;shop 0 1 0 1;", 59, -1);
        cold("whatever FROSTS are", "frost -9;shop 0 40 0 1;", 60, 0);
        cold("1 DAY", "shop 0 40 0 1;", 1, 0);
        cold("1 DAY, 36", "shop 0 36 0 1;", 1, -1);
        cold("20", "snow 0 9;shop 0 40 9 1;shop 1 1 4 1;", 60, 20);
        cold("19", "snow 0 9;shop 0 40 9 1;shop 1 1 2 1;", 60, 19);
        cold("21 can't be", "snow 0 9;shop 0 40 9 1;shop 1 1 6 1;", 60, -100);
        cold("0 DAYS", "shop 0 40 0 1;", 0, -100);
        cold("61 DAYS", "shop 0 40 0 1;", 61, -100);
    }

    private void heavier() {
        e.says("HEAVIER of a SHOP: the greatest that its WEIGHT may be more, 0 .. 99, so that nobody FALLS now.");
        e.at("0", shopping("shop 0 40 0 1;", 1), 0);
        e.at("1", shopping("shop 0 39 0 1;", 1), 1);
        e.at("98", shopping("bear 1;all 12;shop 0 46 0 1;", 1), 98);
        e.at("99", shopping("bear 1;all 12;shop 0 45 0 1;", 1), 99);
        e.beyond("99 at most", shopping("bear 1;all 12;shop 0 44 0 1;", 1), 99);
        // The other one bears 40: 30, and half of 21, cut; so 20 may be 21.
        e.at("so that another one stands", Check.street("all 20;ice 0 90;shop 0 20 0 1;shop 1 30 0 1;", "", "")
            .shopping(0, 0, 0, 0, 0, 1), 1);
        e.beyond("beyond a CRACK", Check.street("all 20;ice 0 90;crack 0 1;shop 0 20 0 1;shop 1 30 0 1;", "", "")
            .shopping(0, 0, 0, 0, 0, 1), 99);
    }

    private void latest() {
        e.says("LATEST of a SHOP: behind how many DAYS to come, 0 .. 60, it stands and can go off last.");
        e.at("0", shopping("frost -1;shore 0;shop 0 40 0 1;", 2), 0);
        e.at("1", shopping("frost -1;shore 0;shop 0 36 0 1;", 2), 1);
        e.at("59", shopping("bear 1;all 60;frost -1;shore 0;shop 0 1 0 1;", 2), 59);
        e.at("60", shopping("bear 1;all 61;frost -1;shore 0;shop 0 1 0 1;", 2), 60);
        e.beyond("60 at most", shopping("bear 1;all 62;frost -1;shore 0;shop 0 1 0 1;", 2), 60);
        // A WAY on DAYS 1, 3, .. alone: 21 inches bear 44.
        e.at("last", shopping("all 20;ice 0 40;frost 1 -1;shore 1;shop 0 44 0 1;", 2), 59);
        e.at("last, an even DAY", shopping("all 20;ice 0 40;frost 1 -1;shore 1;shop 0 40 0 1;", 2), 60);
        // It stands, but the WAY is gone.
        e.at("a WAY for two DAYS", shopping("all 20;ice 0 90;frost -1;shore 1;shop 0 32 0 1;", 2), 2);
        e.beyond("never", shopping("shop 0 40 0 1;", 2), -1);
    }

    /** SHOP 0 stands, 1 fell at first, 2 stands until it goes off (1 ACT, which is STOP). */
    private static IceStreet shops() {
        return Check.street("size 3 2;frost -1;shore 3 5;shop 0 30 0 1;shop 1 41 0 1;shop 5 10 0 1;", "share 0;",
            "off 2;sweep 6;");
    }

    private void standing(String what, OfShop asked, long none) {
        IceStreet x = shops();
        e.at(what + " of SHOP 0", asked.of(x, 0, 0, 0, 0, 0) != none, true);
        e.at(what + " of SHOP 2", asked.of(x, 0, 0, 0, 0, 2) != none, true);
        e.beyond(what + " of SHOP 2 when it is off", asked.of(x, 0, 0, 0, 1, 2), none);
        e.beyond(what + " of SHOP 1, which fell", asked.of(x, 0, 0, 0, 0, 1), none);
        for (int shop : new int[] {3, 5, 6, -1, -2, Integer.MIN_VALUE, Integer.MAX_VALUE}) {
            e.beyond(what + " of SHOP " + shop, asked.of(x, 0, 0, 0, 0, shop), none);
        }
    }

    private void states(String what, OfShop asked, long none) {
        IceStreet x = shops();
        e.statesUpTo(1, what, (lake, law, plan, n) -> asked.of(x, lake, law, plan, n, 0), none);
    }

    private void promisedHolds() {
        e.section("Promise 19");
        e.tells("HOLDS.");
        e.at("HOLDS", shops().holds(0, 0, 0, 0, 0), 3);
        OfShop holds = (x, lake, law, plan, n, shop) -> x.holds(lake, law, plan, n, shop);
        e.says("NONE: it does not stand");
        standing("holds", holds, -1);
        e.says("or as ice().");
        states("holds", holds, -1);
    }

    private void promisedFair() {
        e.section("Promise 20");
        e.says("FAIR of a weight, 1 .. 999, w by h (1 .. 6), or (days) how many DAYS.");
        fair("1", "frost -1;ice 3 21;", 1, 1, 1, 3, 17);
        fair("999", "size 6 6;bear 1;all 32;", 999, 6, 6, 0, 60);
        fair("0", "size 6 6;", 0, 1, 1, -1, 0);
        fair("1000", "size 6 6;bear 1;all 32;", 1000, 1, 1, -1, 0);
        fair("7 by 1", "size 6 6;", 1, 7, 1, -1, 0);
        fair("1 by 7", "size 6 6;", 1, 1, 7, -1, 0);
        fair("0 by 1", "size 6 6;", 1, 0, 1, -1, 0);
        fair("1 by 0", "size 6 6;", 1, 1, 0, -1, 0);
        e.says("NONE: none BEARS it now");
        fair("40", "", 40, 1, 1, 0, 60);
        fair("41", "", 41, 1, 1, -1, 0);
        e.says("there is no such STATE");
        IceStreet x = Check.street("size 2 2;frost -1;", "", "day;sweep 4;");
        e.statesUpTo(1, "FAIR", (lake, law, plan, n) -> x.fair(lake, law, plan, n, 36, 1, 1, false), -1);
        e.statesUpTo(1, "DAYS", (lake, law, plan, n) -> x.fair(lake, law, plan, n, 36, 1, 1, true), -1);
        e.says("or other numbers.");
        fair("just those", "", 1, 4, 4, 0, 60);
        int far = Integer.MAX_VALUE;
        int[][] other = {{0, 1, 1}, {-1, 1, 1}, {1000, 1, 1}, {far, 1, 1}, {-far, 1, 1}, {1, 0, 1}, {1, 7, 1}, {1, -1, 1},
            {1, far, 1}, {1, -far, 1}, {1, 1, 0}, {1, 1, 7}, {1, 1, -1}, {1, 1, far}, {1, 1, -far}};
        for (int[] o : other) {
            fair(o[0] + ", " + o[1] + " by " + o[2], "bear 1;all 99;", o[0], o[1], o[2], -1, 0);
        }
    }

    private void promisedDrawn() {
        e.section("Promise 21");
        e.says("DRAWN, what 0: that WORTH, 10 + d: which SHOP goes off on the d-th of these DAYS (NONE).");
        IceStreet x = Check.street("size 3 2;shore 0;shop 0 10 0 5;shop 5 10 0 7;shop 2 41 0 3;", "share 0;", "day;sweep 6;");
        draws("two DAYS", x, 0, 2, 3, 0, 1);
        draws("three DAYS", x, 0, 3, 3, 0, 1, -1);
        draws("a DAY", x, 1, 1, 7 + 3, 0);
        draws("none", street("shop 0 10 0 5;"), 0, 2, 5, -1, -1);
        e.says("-2: there is no such STATE");
        e.statesUpTo(1, "WORTH", (lake, law, plan, n) -> x.drawn(lake, law, plan, n, 2, 0), -2);
        e.statesUpTo(1, "a SHOP", (lake, law, plan, n) -> x.drawn(lake, law, plan, n, 2, 10), -2);
        e.says("other DAYS");
        e.at("1", x.drawn(0, 0, 0, 0, 1, 0), 10);
        e.at("6", x.drawn(0, 0, 0, 0, 6, 0), 3);
        for (int days : new int[] {0, 7, -1, 60, Integer.MIN_VALUE, Integer.MAX_VALUE}) {
            e.beyond("in " + days, x.drawn(0, 0, 0, 0, days, 0), -2);
            e.beyond("in " + days + ", a SHOP", x.drawn(0, 0, 0, 0, days, 10), -2);
        }
        e.says("or for another what.");
        e.at("what 15", x.drawn(0, 0, 0, 0, 6, 15), -1);
        for (int what : new int[] {-1, 1, 9, 16, Integer.MIN_VALUE, Integer.MAX_VALUE}) {
            e.beyond("what " + what, x.drawn(0, 0, 0, 0, 6, what), -2);
        }
        e.beyond("what 12 in 2", x.drawn(0, 0, 0, 0, 2, 12), -2);
    }

    private void promisedSetHearthGulls() {
        e.section("Promise 22");
        e.tells("SET.");
        e.at("SET", shops().set(0, 0, 0, 0, 0), 0);
        OfShop set = (x, lake, law, plan, n, shop) -> x.set(lake, law, plan, n, shop);
        e.says("NONE: as holds().");
        standing("set", set, -1);
        states("set", set, -1);

        e.section("Promise 23");
        e.tells("HEARTH.");
        IceStreet x = Check.street(WARMED, "share 0;", "day;sweep 6;");
        e.at("HEARTH", x.hearth(0, 0, 0, 0), 1);
        e.says("NONE: none");
        e.at("one", street(WARMED).hearth(0, 0, 0, 0), 1);
        e.beyond("none", street(WARMED.replace("9 2 1", "9 1 1")).hearth(0, 0, 0, 0), -1);
        e.beyond("no SHOPS", street("").hearth(0, 0, 0, 0), -1);
        e.says("or there is no such STATE.");
        e.statesUpTo(1, "HEARTH", (lake, law, plan, n) -> x.hearth(lake, law, plan, n), -1);

        e.section("Promise 27");
        e.tells("GULLS.");
        IceStreet y = Check.street("all 9;ice 4 8;frost -1;", "", "day;sweep 16;");
        e.at("GULLS", y.gulls(0, 0, 0, 0), 4);
        e.says("NONE: none");
        e.at("one", street("all 60;frost -1;").gulls(0, 0, 0, 0), 0);
        e.beyond("none", street("all 61;frost -1;").gulls(0, 0, 0, 0), -1);
        e.says("or there is no such STATE.");
        e.statesUpTo(1, "GULLS", (lake, law, plan, n) -> y.gulls(lake, law, plan, n), -1);
    }

    private void promisedWinter() {
        e.section("Promise 30");
        e.says("WINTERS by a SEED behind so many DAYS, 0 .. 60");
        IceStreet x = Check.street("size 2 2;all 99;frost 3 -3;shop 1 9 0 5;shop 2 99 9 7;shop 3 99 0 9;ice 3 5;",
            "share 0;rent 10;", "day;sweep 4;");
        int[] drawn = numbers(5, 60);
        int thick = 99;
        e.at("0 DAYS", x.winter(0, 0, 0, 0, 5, 0, 101), 99);
        for (int d = 0; d < 60; d++) {
            int f = (d % 2 == 0 ? 3 : -3) + drawn[d];
            thick = Math.max(0, Math.min(99, thick + f));
        }
        e.at("60 DAYS", x.winter(0, 0, 0, 0, 5, 60, 101), thick);
        e.beyond("61 DAYS", x.winter(0, 0, 0, 0, 5, 61, 101), -1);
        e.beyond("-1 DAYS", x.winter(0, 0, 0, 0, 5, -1, 101), -1);

        e.says("what 0: LOST, 1: PAID by then, 2: how many stand, 100 + c: how THICK CELL c is.");
        // SHOP 2 fell at first; the DAY's F is 3 and a number, so that SHOP 1 has 99 less 9 and it, at most.
        int f = 3 + drawn[0];
        e.at("LOST", x.winter(0, 0, 0, 0, 5, 0, 0), 9);
        e.at("PAID", x.winter(0, 0, 0, 0, 5, 1, 1), Math.min(99, 99 + f) + Math.min(99, 99 + f - 9));
        e.at("PAID before, too", x.winter(0, 0, 0, 1, 5, 0, 1), 99 + 93);
        e.at("how many stand", x.winter(0, 0, 0, 0, 5, 1, 2), 2);
        e.at("one that stands in CELL 0", street("shop 0 9 0 1;").winter(0, 0, 0, 0, 5, 0, 2), 1);
        e.at("none", street("").winter(0, 0, 0, 0, 5, 0, 2), 0);
        e.at("LOST behind 60", x.winter(0, 0, 0, 0, 5, 60, 0), 16);
        e.at("how many stand behind 60", x.winter(0, 0, 0, 0, 5, 60, 2), 1);
        e.at("THICK 2", x.winter(0, 0, 0, 0, 5, 1, 102), Math.min(99, 99 + f - 9));
        e.at("THICK 3", x.winter(0, 0, 0, 0, 5, 0, 103), 0);
        e.beyond("THICK 4", x.winter(0, 0, 0, 0, 5, 1, 104), -1);

        e.says("NONE: there is no such STATE");
        for (int what : new int[] {0, 1, 2, 100}) {
            e.statesUpTo(1, "what " + what, (lake, law, plan, n) -> x.winter(lake, law, plan, n, 5, 1, what), -1);
        }
        e.says("other DAYS");
        e.at("60", x.winter(0, 0, 0, 0, 5, 60, 2), 1);
        for (int days : new int[] {-1, 61, Integer.MIN_VALUE, Integer.MAX_VALUE}) {
            for (int what : new int[] {0, 1, 2, 100}) {
                e.beyond("DAYS " + days, x.winter(0, 0, 0, 0, 5, days, what), -1);
            }
        }
        e.says("or for another what.");
        e.at("what 2", x.winter(0, 0, 0, 0, 5, 1, 2), 2);
        for (int what : new int[] {-1, 3, 99, 104, 136, Integer.MIN_VALUE, Integer.MAX_VALUE}) {
            e.beyond("what " + what, x.winter(0, 0, 0, 0, 5, 1, what), -1);
        }
    }

    private void promisedFallen() {
        e.section("Promise 31");
        e.says("FALLEN, w 1 .. 9, DAYS 0 .. 60.");
        IceStreet x = street("frost -20;shop 0 40 0 1;");
        e.at("w 1", x.fallen(0, 0, 0, 0, 3, 1, 60, 0), 1);
        e.at("w 9", x.fallen(0, 0, 0, 0, 3, 9, 60, 0), 9);
        e.at("0 DAYS", x.fallen(0, 0, 0, 0, 3, 9, 0, 0), 0);
        e.beyond("w 0", x.fallen(0, 0, 0, 0, 3, 0, 60, 0), -1);
        e.beyond("w 10", x.fallen(0, 0, 0, 0, 3, 10, 60, 0), -1);
        e.beyond("61 DAYS", x.fallen(0, 0, 0, 0, 3, 9, 61, 0), -1);
        e.beyond("-1 DAYS", x.fallen(0, 0, 0, 0, 3, 9, -1, 0), -1);
        OfShop fallen = (y, lake, law, plan, n, shop) -> y.fallen(lake, law, plan, n, 3, 9, 5, shop);
        e.says("NONE: as holds()");
        standing("fallen", fallen, -1);
        states("fallen", fallen, -1);
        e.says("or other numbers.");
        e.at("w 9, 60 DAYS", x.fallen(0, 0, 0, 0, 3, 9, 60, 0), 9);
        int far = Integer.MAX_VALUE;
        int[][] other = {{0, 1}, {10, 1}, {-1, 1}, {far, 1}, {-far, 1}, {1, -1}, {1, 61}, {1, far}, {1, -far}};
        for (int[] o : other) {
            e.beyond("w " + o[0] + ", DAYS " + o[1], x.fallen(0, 0, 0, 0, 3, o[0], o[1], 0), -1);
        }
    }

    private void promisedShopping() {
        e.section("Promise 32");
        e.tells("SWEPT (what 0), HEAVIER (1), LATEST (2).");
        IceStreet x = street("frost 1;snow 5 2;shore 6;shop 5 32 1 1;");
        e.at("SWEPT", x.shopping(0, 0, 0, 0, 0, 0), 5);
        e.at("HEAVIER", x.shopping(0, 0, 0, 0, 0, 1), 8);
        e.at("LATEST", x.shopping(0, 0, 0, 0, 0, 2), 2);
        e.says("NONE: by none");
        e.at("it can go off", shopping("shore 0;shop 0 40 0 1;", 2), 60);
        e.beyond("it can't", shopping("shop 0 40 0 1;", 2), -1);
        e.says("it does not stand");
        OfShop[] asked = new OfShop[3];
        for (int what = 0; what < 3; what++) {
            int w = what;
            asked[w] = (y, lake, law, plan, n, shop) -> y.shopping(lake, law, plan, n, shop, w);
            standing("shopping " + w, asked[w], -1);
        }
        e.says("as ice()");
        for (OfShop a : asked) {
            states("shopping", a, -1);
        }
        e.says("or another what.");
        e.at("what 2", x.shopping(0, 0, 0, 0, 0, 2), 2);
        for (int what : new int[] {3, -1, 10, Integer.MIN_VALUE, Integer.MAX_VALUE}) {
            e.beyond("what " + what, x.shopping(0, 0, 0, 0, 0, what), -1);
        }
    }

    private void promisedCold() {
        e.section("Promise 33");
        e.tells("COLD.");
        e.at("COLD", street("shop 0 40 0 1;").cold(0, 0, 0, 0, 0, 5), 0);
        e.says("-100: by none");
        cold("by 20", "snow 0 9;shop 0 40 9 1;shop 1 1 4 1;", 1, 20);
        cold("by 21", "snow 0 9;shop 0 40 9 1;shop 1 1 6 1;", 1, -100);
        OfShop cold = (x, lake, law, plan, n, shop) -> x.cold(lake, law, plan, n, shop, 5);
        e.says("as holds()");
        standing("cold", cold, -100);
        states("cold", cold, -100);
        e.says("or other DAYS.");
        cold("1", "shop 0 40 0 1;", 1, 0);
        cold("60", "shop 0 40 0 1;", 60, 0);
        for (int days : new int[] {0, 61, -1, Integer.MIN_VALUE, Integer.MAX_VALUE}) {
            cold("DAYS " + days, "shop 0 40 0 1;", days, -100);
        }
    }
}
