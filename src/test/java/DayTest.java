/** Promises 19 to 27 and 30 to 33: what DAYS to come bring. */
public final class DayTest {
    private static final Check C = new Check();

    public static void main(String[] args) {
        holds();
        fair();
        drawn();
        setting();
        hearth();
        branches();
        thaw();
        gulls();
        winter();
        shopping();
        cold();
        C.finish();
    }

    private static void holds() {
        C.due("6 days", held("all 30;frost -2;shop 0 40 0 5;"), 6);
        C.due("3 days by its stove", held("all 30;frost -2;shop 0 40 3 5;"), 3);
        C.due("all", held("all 30;shop 0 40 0 5;"), 61);
        C.due("just 60", held("all 80;frost -1;shop 0 41 0 5;"), 60);
        C.due("not within 60", held("all 80;frost -1;shop 0 40 0 5;"), 61);
        C.due("1 day", held("all 20;frost -1;shop 0 40 0 5;"), 1);
        IceStreet x = Check.street("all 20;shop 0 40 1 5;shop 2 41 0 5;shop 4 1 0 1;shore 4;", "share 0;", "off 2;day;");
        C.due("no such shop", x.holds(0, 0, 0, 0, 3), -1);
        C.due("shop -1", x.holds(0, 0, 0, 0, -1), -1);
        C.due("fell at first", x.holds(0, 0, 0, 0, 1), -1);
        C.due("stands", x.holds(0, 0, 0, 0, 2), 61);
        C.due("is off", x.holds(0, 0, 0, 1, 2), -1);
        C.due("holds 1", x.holds(0, 0, 0, 1, 0), 1);
        C.due("fell", x.holds(0, 0, 0, 2, 0), -1);
        C.due("no such state", x.holds(0, 0, 0, 3, 0), -1);
        C.due("no such lake", x.holds(1, 0, 0, 0, 0), -1);
    }

    private static int held(String lake) {
        return Check.street(lake, "", "").holds(0, 0, 0, 0, 0);
    }

    private static void fair() {
        // 20 30 30
        // 20 30 30   20 bear 40, 30 bear 90.
        String lake = "size 3 2;all 30;ice 0 20;ice 3 20;";
        IceStreet x = Check.street(lake + "frost -1;", "least 99;", "");
        fair(x, 40, 1, 1, 1, 10);
        fair(x, 40, 2, 2, 1, 10);
        fair(x, 40, 3, 1, 0, 0);
        fair(x, 40, 3, 2, 0, 0);
        fair(x, 40, 1, 2, 1, 10);
        fair(x, 41, 3, 2, -1, -1);
        fair(x, 90, 2, 1, 1, 0);
        fair(x, 91, 1, 1, -1, -1);
        fair(x, 1, 4, 1, -1, -1);
        fair(x, 1, 1, 3, -1, -1);
        fair(x, 999, 1, 1, -1, -1);
        int[][] wrong = {{0, 1, 1}, {1000, 1, 1}, {-1, 1, 1}, {1, 0, 1}, {1, 1, 0}, {1, 7, 1}, {1, 1, 7}, {1, -1, 1}};
        for (int[] w : wrong) {
            fair(x, w[0], w[1], w[2], -1, -1);
        }
        C.due("no such state", x.fair(0, 0, 0, 1, 1, 1, 1, false), -1);
        fair(Check.street(lake, "", ""), 40, 3, 2, 0, 60);
        fair(Check.street("size 6 6;", "", ""), 40, 6, 6, 0, 60);
        fair(Check.street(lake + "frost -1 20;", "", ""), 40, 3, 1, 0, 0);
        fair(Check.street(lake + "frost 1 -20;", "", ""), 40, 3, 1, 0, 1);
        // A SHOP, and its LOAD of 5 beside it.
        x = Check.street(lake + "shop 1 10 0 1;frost -1;", "", "");
        fair(x, 85, 1, 1, 2, 0);
        fair(x, 86, 1, 1, 5, 0);
        fair(x, 91, 1, 1, -1, -1);
        fair(x, 30, 2, 1, 4, 11);
        fair(x, 30, 3, 2, -1, -1);
        fair(x, 35, 1, 1, 5, 11);
    }

    private static void fair(IceStreet x, int weight, int w, int h, int cell, int days) {
        C.due("fair of " + weight + ", " + w + " by " + h, x.fair(0, 0, 0, 0, weight, w, h, false), cell);
        C.due("days of " + weight + ", " + w + " by " + h, x.fair(0, 0, 0, 0, weight, w, h, true), days);
    }

    private static void drawn() {
        String lake = "size 2 2;all 20;shore 0 1 2 3;shop 0 10 0 5;shop 3 10 0 7;";
        IceStreet x = Check.street(lake + "frost -20;", "", "off 0;");
        draws(x, 0, 1, 5, 1);
        draws(x, 0, 2, 5, 1, -1);
        draws(x, 1, 1, 0, 1);
        x = Check.street(lake + "frost 0 -20;", "", "day;day;");
        draws(x, 0, 2, 0, 0, 1);
        draws(x, 0, 3, 0, 0, 1, -1);
        draws(x, 0, 6, 0, 0, 1, -1, -1, -1, -1);
        draws(x, 1, 2, 5, 1, -1);
        draws(x, 2, 2, 12, -1, -1);
        // Of several the first by rows: 0 goes before 1, and none is behind all.
        draws(Check.street("size 2 2;all 20;shore 0 1 2 3;shop 0 10 0 5;shop 3 10 0 5;frost -20;", "", ""), 0, 1, 5, 0);
        draws(Check.street("size 2 2;all 20;shop 0 10 0 5;", "", ""), 0, 2, 5, -1, -1);
        draws(Check.street("size 2 2;all 20;shore 0;shop 0 10 0 0;", "", ""), 0, 2, 0, 0, -1);
        draws(Check.street("", "", ""), 0, 3, 0, -1, -1, -1);
        // The way is free for 0 when 1 is off.
        draws(Check.street("size 2 2;all 20;ice 2 0;ice 3 0;shore 1;shop 0 10 0 5;shop 1 10 0 5;", "share 0;", ""),
            0, 2, 0, 1, 0);
        for (int days : new int[] {0, -1, 7}) {
            C.due("drawn in " + days, x.drawn(0, 0, 0, 0, days, 0), -2);
        }
        for (int what : new int[] {-1, 1, 9, 12, 16, Integer.MIN_VALUE, Integer.MAX_VALUE}) {
            C.due("drawn what " + what, x.drawn(0, 0, 0, 0, 2, what), -2);
        }
        C.due("drawn in no state", x.drawn(0, 0, 0, 3, 2, 0), -2);
    }

    private static void draws(IceStreet x, int n, int days, int worth, int... row) {
        C.due("drawn in " + days, x.drawn(0, 0, 0, n, days, 0), worth);
        for (int d = 0; d < days; d++) {
            C.due("drawn in " + days + " on " + d, x.drawn(0, 0, 0, n, days, 10 + d), row[d]);
        }
        C.due("drawn in " + days + " on " + days, x.drawn(0, 0, 0, n, days, 10 + days), -2);
    }

    private static void setting() {
        String lake = "size 3 2;all 30;ice 5 50;frost -1;shop 4 40 0 1;";
        C.due("thickest", Check.street(lake, "", "").set(0, 0, 0, 0, 0), 5);
        C.due("barred", Check.street(lake, "bar 5;", "").set(0, 0, 0, 0, 0), 0);
        C.due("no way", Check.street(lake, "lane 5 4;lane 5 2;", "").set(0, 0, 0, 0, 0), 0);
        C.due("no way at all", Check.street(lake, "least 51;", "").set(0, 0, 0, 0, 0), 4);
        C.due("barred where it is", Check.street("frost -1;shop 5 20 0 1;", "least 21;bar 5;", "").set(0, 0, 0, 0, 0), 5);
        // Its HEAT alone: beside a stove it holds less long.
        String stoves = "size 3 2;all 20;shop 4 20 1 1;shop 0 1 8 1;";
        C.due("far from a stove", Check.street(stoves, "", "").set(0, 0, 0, 0, 0), 2);
        C.due("apart 4", Check.street(stoves, "apart 4;", "").set(0, 0, 0, 0, 0), 4);
        IceStreet x = Check.street("all 20;shop 0 41 0 1;", "", "");
        C.due("it fell", x.set(0, 0, 0, 0, 0), -1);
        C.due("no such shop", x.set(0, 0, 0, 0, 1), -1);
        C.due("no such state", x.set(0, 0, 0, 1, 0), -1);
    }

    private static void hearth() {
        String lake = "size 3 2;all 30;ice 0 16;ice 2 16;shop 0 10 0 1;shop 1 10 4 1;shop 2 10 0 1;";
        IceStreet x = Check.street(lake, "", "day;day;day;");
        C.due("warms both", x.hearth(0, 0, 0, 0), 1);
        C.due("both fell", x.hearth(0, 0, 0, 2), -1);
        C.due("no such state", x.hearth(0, 0, 0, 4), -1);
        C.due("none is warmed", Check.street(lake + "crack 0 1;crack 1 2;", "", "").hearth(0, 0, 0, 0), -1);
        C.due("no shops", Check.street("", "", "").hearth(0, 0, 0, 0), -1);
        C.due("its own does not count", Check.street("shop 0 10 9 1;", "", "").hearth(0, 0, 0, 0), -1);
        // 60 DAYS with it, 61 without: SNOW keeps the frost from shop 0's CELL alone.
        C.due("one day more", Check.street("size 2 2;all 80;snow 0 9;frost 3;shop 0 41 0 1;shop 1 1 3 1;", "share 0;", "")
            .hearth(0, 0, 0, 0), 1);
        C.due("not one day more", Check.street("size 2 2;all 80;snow 0 9;frost 3;shop 0 40 0 1;shop 1 1 3 1;", "share 0;",
            "").hearth(0, 0, 0, 0), -1);
        // 0 and 1 warm one another: of several the least.
        C.due("the least", Check.street("all 30;shop 0 10 2 1;shop 1 10 2 1;", "", "").hearth(0, 0, 0, 0), 0);
    }

    private static void branches() {
        IceStreet x = Check.street("size 3 3;bear 1;all 10;ice 1 5;frost -1;", "", "");
        int[] bits = {7, 61, 61, 61, 61, 61, -1, -1};
        for (int day = 0; day < bits.length; day++) {
            C.due("branches on " + day, x.branches(0, 0, 0, 0, 20, 0, 2, day), bits[day]);
        }
        C.due("branches on 30", x.branches(0, 0, 0, 0, 20, 0, 2, 30), -1);
        C.due("branches on 31", Check.street("", "", "").branches(0, 0, 0, 0, 20, 0, 2, 31), -1);
        C.due("branches on 30 of another", Check.street("", "", "").branches(0, 0, 0, 0, 20, 0, 2, 30), 7);
        C.due("branches on -1", x.branches(0, 0, 0, 0, 20, 0, 2, -1), -1);
        C.due("old of 7", x.old(0, 0, 0, 0, 20, 0, 2, 7), 0);
        C.due("old of 61", x.old(0, 0, 0, 0, 20, 0, 2, 61), 1);
        C.due("old of 5", x.old(0, 0, 0, 0, 20, 0, 2, 5), -1);
        C.due("old of 0", x.old(0, 0, 0, 0, 20, 0, 2, 0), -1);
        C.due("old of -1", x.old(0, 0, 0, 0, 20, 0, 2, -1), -1);
        C.due("old of more bits", x.old(0, 0, 0, 0, 20, 0, 2, 7 | 1L << 40), -1);
        // 4 + 30 inches: open on the 30th DAY, or behind all.
        x = Check.street("size 2 2;bear 2;all 4;frost 1;", "", "");
        C.due("old on the 30th", x.old(0, 0, 0, 0, 34 * 34 / 2, 0, 1, 3), 30);
        C.due("old on none", x.old(0, 0, 0, 0, 34 * 34 / 2 + 1, 0, 1, 3), -1);
    }

    private static void thaw() {
        IceStreet x = Check.street("size 3 3;bear 1;all 10;ice 1 5;frost -1;", "", "");
        C.due("thaw", x.thaw(0, 0, 0, 0, 20, 0, 2), 6);
        C.due("thaw of no way", x.thaw(0, 0, 0, 0, 101, 0, 2), 0);
        C.due("never", Check.street("", "", "").thaw(0, 0, 0, 0, 20, 0, 2), -1);
        C.due("on the 60th", Check.street("bear 1;all 60;frost -1;", "", "").thaw(0, 0, 0, 0, 1, 0, 2), 60);
        C.due("behind these", Check.street("bear 1;all 61;frost -1;", "", "").thaw(0, 0, 0, 0, 1, 0, 2), -1);
    }

    private static void gulls() {
        C.due("the first", gulls("size 2 2;all 10;ice 0 0;ice 2 5;ice 3 5;frost -2;"), 2);
        C.due("where a shop falls", gulls("size 2 2;all 10;ice 0 3;frost -2;shop 1 10 0 1;"), 1);
        C.due("under a stove", gulls("size 2 2;all 10;shop 3 1 7 1;"), 3);
        C.due("none", gulls("size 2 2;all 10;"), -1);
        C.due("all are now", gulls("size 2 2;all 0;frost -1;"), -1);
        C.due("on the 60th", gulls("size 2 2;all 60;frost -1;"), 0);
        C.due("behind these", gulls("size 2 2;all 61;frost -1;"), -1);
        C.due("no such state", Check.street("frost -1;", "", "").gulls(0, 0, 0, 1), -1);
    }

    private static int gulls(String lake) {
        return Check.street(lake, "", "").gulls(0, 0, 0, 0);
    }

    private static void winter() {
        // By SEED 7 the numbers less 3 are -3, 3, 1, -2, -1, 3; by 0: -3, -3, -3, 2, 2, -1; by -5: -2, 0, -3, ...
        IceStreet x = Check.street("size 2 2;all 50;snow 2 2;frost 5 -1;shop 0 30 0 9;shop 3 99 9 8;", "rent 10;share 0;",
            "day;day;day;");
        int[] plain = {50, 52, 54, 60, 57, 61, 63};
        int[] snowy = {50, 46, 42, 42, 35, 37, 37};
        for (int d = 0; d <= 6; d++) {
            C.due("winter, plain ice", x.winter(0, 0, 0, 0, 7, d, 100), plain[d]);
            C.due("winter, snow", x.winter(0, 0, 0, 0, 7, d, 102), snowy[d]);
        }
        // Shop 1's ice: 50, 43, 36, 33, 21: 44 do not bear 99.
        C.due("two stand", x.winter(0, 0, 0, 0, 7, 3, 2), 2);
        C.due("one stands", x.winter(0, 0, 0, 0, 7, 4, 2), 1);
        C.due("nothing lost", x.winter(0, 0, 0, 0, 7, 3, 0), 0);
        C.due("lost", x.winter(0, 0, 0, 0, 7, 4, 0), 8);
        C.due("paid by none", x.winter(0, 0, 0, 0, 7, 0, 1), 0);
        C.due("paid by one", x.winter(0, 0, 0, 0, 7, 1, 1), 52 + 43);
        C.due("paid by two", x.winter(0, 0, 0, 0, 7, 2, 1), 52 + 43 + 54 + 36);
        C.due("seed 0", x.winter(0, 0, 0, 0, 0, 4, 100), 50 + 2 - 4 + 2 + 1);
        C.due("seed -5", x.winter(0, 0, 0, 0, -5, 2, 100), 50 + 3 - 1);
        C.due("on from a day", x.winter(0, 0, 0, 1, 7, 1, 100), 55 - 4);
        C.due("paid before, too", x.winter(0, 0, 0, 1, 7, 0, 1), 55 + 46);
        C.due("60 days", x.winter(0, 0, 0, 0, 7, 60, 101) >= 0, true);
        C.due("61 days", x.winter(0, 0, 0, 0, 7, 61, 101), -1);
        C.due("-1 days", x.winter(0, 0, 0, 0, 7, -1, 101), -1);
        for (int what : new int[] {-1, 3, 99, 104, Integer.MIN_VALUE, Integer.MAX_VALUE}) {
            C.due("winter what " + what, x.winter(0, 0, 0, 0, 7, 1, what), -1);
        }
        C.due("no such state", x.winter(0, 0, 0, 4, 7, 1, 0), -1);
        fallen();
    }

    private static void fallen() {
        // 20 inches bear 40: any number below 3 on the first DAY, and it FALLS.
        IceStreet x = Check.street("frost 0;shop 0 40 0 1;", "", "");
        int falls = 0;
        for (int w = 1; w <= 9; w++) {
            falls += first(100 + w - 1) < 0 ? 1 : 0;
            C.due("fallen of " + w, x.fallen(0, 0, 0, 0, 100, w, 1, 0), falls);
        }
        C.due("within none", x.fallen(0, 0, 0, 0, 100, 9, 0, 0), 0);
        C.due("within 60", Check.street("frost -4;shop 0 40 0 1;", "", "").fallen(0, 0, 0, 0, 100, 9, 60, 0), 9);
        C.due("seeds come round", Check.street("frost -4;shop 0 40 0 1;", "", "")
            .fallen(0, 0, 0, 0, Integer.MAX_VALUE, 9, 60, 0), 9);
        int[][] wrong = {{0, 1, 0}, {10, 1, 0}, {1, -1, 0}, {1, 61, 0}, {1, 1, 1}, {1, 1, -1}};
        for (int[] w : wrong) {
            C.due("fallen " + w[0] + " " + w[1] + " " + w[2], x.fallen(0, 0, 0, 0, 5, w[0], w[1], w[2]), -1);
        }
        C.due("no such state", x.fallen(0, 0, 0, 1, 5, 1, 1, 0), -1);
        C.due("fell before", Check.street("shop 0 41 0 1;", "", "").fallen(0, 0, 0, 0, 5, 1, 1, 0), -1);
    }

    private static int first(int seed) {
        int x = seed * 1103515245 + 12345;
        return (x >>> 16) % 7 - 3;
    }

    private static void shopping() {
        IceStreet x = Check.street("size 2 2;all 20;snow 0 5;snow 3 5;frost 3;shop 3 30 3 1;", "", "");
        C.due("swept", x.shopping(0, 0, 0, 0, 0, 0), 3);
        C.due("of several the least", Check.street("shop 3 30 0 1;snow 2 3;", "", "").shopping(0, 0, 0, 0, 0, 0), 0);
        C.due("the other one's", Check.street("size 2 2;all 20;snow 0 5;frost 3;shop 1 30 0 1;shop 0 7 3 9;", "", "")
            .shopping(0, 0, 0, 0, 0, 0), 0);
        C.due("heavier", x.shopping(0, 0, 0, 0, 0, 1), 10);
        C.due("99 heavier", Check.street("all 60;shop 3 30 0 1;", "", "").shopping(0, 0, 0, 0, 0, 1), 99);
        C.due("0 heavier", Check.street("shop 3 40 0 1;", "", "").shopping(0, 0, 0, 0, 0, 1), 0);
        C.due("so that others hold", Check.street("shop 3 9 0 1;shop 2 30 0 1;", "share 3;", "")
            .shopping(0, 0, 0, 0, 0, 1), 22);
        IceStreet y = Check.street("size 2 2;all 20;frost -1;shore 3;shop 0 20 0 1;", "", "day;day;");
        C.due("latest", y.shopping(0, 0, 0, 0, 0, 2), 5);
        C.due("latest from then on", y.shopping(0, 0, 0, 2, 0, 2), 3);
        C.due("no shore", x.shopping(0, 0, 0, 0, 0, 2), -1);
        C.due("for ever", Check.street("shore 3;shop 0 20 0 1;", "", "").shopping(0, 0, 0, 0, 0, 2), 60);
        C.due("on the shore", Check.street("shore 0;frost -1;shop 0 20 0 1;", "", "").shopping(0, 0, 0, 0, 0, 2), 5);
        C.due("not at first", Check.street("size 2 2;all 9;ice 0 20;frost 1;shore 3;shop 0 20 0 1;", "", "")
            .shopping(0, 0, 0, 0, 0, 2), 60);
        C.due("what 3", x.shopping(0, 0, 0, 0, 0, 3), -1);
        C.due("what -1", x.shopping(0, 0, 0, 0, 0, -1), -1);
        IceStreet z = Check.street("shop 0 41 0 1;", "", "");
        for (int what = 0; what < 3; what++) {
            C.due("no such shop " + what, x.shopping(0, 0, 0, 0, 1, what), -1);
            C.due("shop -1 " + what, x.shopping(0, 0, 0, 0, -1, what), -1);
            C.due("no such state " + what, x.shopping(0, 0, 0, 1, 0, what), -1);
            C.due("it fell " + what, z.shopping(0, 0, 0, 0, 0, what), -1);
        }
    }

    private static void cold() {
        IceStreet x = Check.street("frost 7 9;shop 0 30 0 1;", "", "");
        C.due("one day", x.cold(0, 0, 0, 0, 0, 1), -2);
        C.due("two days", x.cold(0, 0, 0, 0, 0, 2), -1);
        C.due("three days", x.cold(0, 0, 0, 0, 0, 3), 0);
        C.due("60 days", x.cold(0, 0, 0, 0, 0, 60), 0);
        x = Check.street("shop 0 30 3 1;", "", "");
        C.due("a stove", x.cold(0, 0, 0, 0, 0, 60), 3);
        C.due("a stove for two days", x.cold(0, 0, 0, 0, 0, 2), 2);
        x = Check.street("snow 0 9;shop 0 30 9 1;", "", "");
        C.due("snow", x.cold(0, 0, 0, 0, 0, 60), 18);
        x = Check.street("snow 0 9;shop 0 30 9 1;shop 1 1 8 1;", "", "");
        C.due("by none", x.cold(0, 0, 0, 0, 0, 60), -100);
        C.due("by 21", Check.street("snow 0 9;shop 0 30 9 1;shop 1 1 6 1;", "", "").cold(0, 0, 0, 0, 0, 60), -100);
        C.due("by 20", Check.street("snow 0 9;shop 0 30 9 1;shop 1 1 4 1;", "", "").cold(0, 0, 0, 0, 0, 60), 20);
        C.due("whatever", Check.street("all 90;shop 0 1 0 1;", "", "").cold(0, 0, 0, 0, 0, 4), -20);
        C.due("0 days", x.cold(0, 0, 0, 0, 0, 0), -100);
        C.due("61 days", x.cold(0, 0, 0, 0, 0, 61), -100);
        C.due("no such shop", x.cold(0, 0, 0, 0, 2, 1), -100);
        C.due("no such state", x.cold(0, 0, 0, 1, 0, 1), -100);
        C.due("it fell", Check.street("shop 0 41 0 1;", "", "").cold(0, 0, 0, 0, 0, 1), -100);
    }
}
