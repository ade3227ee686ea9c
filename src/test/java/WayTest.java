/** Promises 14 to 17, 28, 29, 34 and 35: WAYS, and what stands in them. */
public final class WayTest {
    private static final Check C = new Check();
    // What the CELLS bear:
    // 100  25 100
    //  36  16 100
    // 100  49 100
    private static final String LAKE = "size 3 3;bear 1;all 10;ice 1 5;ice 3 6;ice 4 4;ice 7 7;";
    private static final String WEAK = "weak 2 5;weak 5 1;weak 3 2;weak 6 1;weak 4 9;";

    public static void main(String[] args) {
        shortWays();
        spareWays();
        luckyWays();
        shopsInTheWay();
        mostAndFrom();
        sawnAndNeeds();
        lacks();
        meet();
        wrongTrips();
        C.finish();
    }

    private static void path(String what, IceStreet x, int load, int from, int to, int sort, int... cells) {
        C.due(what + " length", x.way(0, 0, 0, 0, load, from, to, sort, 0), cells.length == 0 ? -1 : cells.length);
        for (int i = 0; i < cells.length; i++) {
            C.due(what + " cell " + i, x.way(0, 0, 0, 0, load, from, to, sort, 10 + i), cells[i]);
        }
        C.due(what + " behind its end", x.way(0, 0, 0, 0, load, from, to, sort, 10 + cells.length), -1);
    }

    private static void shortWays() {
        IceStreet x = Check.street(LAKE, "", "");
        path("the first by rows", x, 10, 0, 8, 0, 0, 1, 2, 5, 8);
        path("the way back", x, 10, 8, 0, 0, 8, 5, 2, 1, 0);
        path("round thin ice", x, 26, 0, 8, 0, 0, 3, 6, 7, 8);
        path("just so much", x, 36, 0, 8, 0, 0, 3, 6, 7, 8);
        path("too much", x, 37, 0, 8, 0);
        path("the first need not bear", x, 100, 4, 5, 0, 4, 5);
        path("the last must", x, 17, 5, 4, 0);
        C.due("no spare of SHORT", x.way(0, 0, 0, 0, 10, 0, 8, 0, 1), 0);
        x = Check.street(LAKE, "lane 1 0;lane 6 3;", "");
        path("lanes", x, 10, 0, 8, 0, 0, 3, 4, 5, 8);
        path("lanes back", x, 10, 8, 0, 0, 8, 5, 2, 1, 0);
        x = Check.street(LAKE, "lane 0 1;lane 1 0;lane 0 3;", "");
        path("a lane either way", x, 10, 0, 1, 0, 0, 3, 4, 1);
        x = Check.street(LAKE + "crack 0 1;crack 1 2;", "", "");
        path("cracks do not matter", x, 10, 0, 8, 0, 0, 1, 2, 5, 8);
        x = Check.street(LAKE, "least 6;", "");
        path("thick at least", x, 10, 0, 8, 0, 0, 3, 6, 7, 8);
        x = Check.street(LAKE, "bar 3 6 7;", "");
        path("barred ones do not matter", x, 30, 0, 8, 0, 0, 3, 6, 7, 8);
    }

    private static void spareWays() {
        IceStreet x = Check.street(LAKE, "", "");
        path("most to spare", x, 10, 0, 8, 1, 0, 3, 6, 7, 8);
        C.due("to spare", x.way(0, 0, 0, 0, 10, 0, 8, 1, 1), 26);
        C.due("nothing to spare", x.way(0, 0, 0, 0, 36, 0, 8, 1, 1), 0);
        path("nothing to spare", x, 36, 0, 8, 1, 0, 3, 6, 7, 8);
        path("too much", x, 37, 0, 8, 1);
        C.due("spare of too much", x.way(0, 0, 0, 0, 37, 0, 8, 1, 1), -1);
        path("a longer way", x, 10, 4, 8, 1, 4, 5, 8);
        C.due("to spare by it", x.way(0, 0, 0, 0, 10, 4, 8, 1, 1), 90);
        path("a much longer way", x, 10, 6, 5, 1, 6, 7, 8, 5);
        path("the first by rows, the last one being least", x, 1, 2, 4, 1, 2, 1, 4);
        C.due("by the last", x.way(0, 0, 0, 0, 1, 2, 4, 1, 1), 15);
        x = Check.street("size 2 2;bear 1;all 50;", "", "");
        path("the first by rows of those", x, 999, 3, 0, 1, 3, 1, 0);
        C.due("above 999 to spare", x.way(0, 0, 0, 0, 999, 3, 0, 1, 1), 1501);
    }

    private static void luckyWays() {
        IceStreet x = Check.street(LAKE + WEAK, "", "");
        path("luckiest", x, 10, 0, 8, 2, 0, 3, 6, 7, 8);
        C.due("luck", x.luck(0, 0, 0, 0, 10, 0, 8), 7_200_000);
        C.due("no spare of LUCKY", x.way(0, 0, 0, 0, 10, 0, 8, 2, 1), 0);
        path("luckiest for more", x, 26, 0, 8, 2, 0, 3, 6, 7, 8);
        C.due("no way", x.luck(0, 0, 0, 0, 37, 0, 8), -1);
        path("no way", x, 37, 0, 8, 2);
        C.due("the last may give way", x.luck(0, 0, 0, 0, 10, 5, 2), 5_000_000);
        C.due("the first does not", x.luck(0, 0, 0, 0, 10, 2, 1), 10_000_000);
        C.due("nearly none", x.luck(0, 0, 0, 0, 10, 0, 4), 1_000_000);
        x = Check.street("size 3 2;weak 1 9;weak 3 1;", "", "");
        path("longer, but luckier", x, 10, 0, 2, 2, 0, 3, 4, 5, 2);
        C.due("its luck", x.luck(0, 0, 0, 0, 10, 0, 2), 9_000_000);
        path("SHORT all the same", x, 10, 0, 2, 0, 0, 1, 2);
        x = Check.street("size 3 2;", "", "");
        path("of several the fewest", x, 10, 0, 5, 2, 0, 1, 2, 5);
        C.due("sure", x.luck(0, 0, 0, 0, 10, 0, 5), 10_000_000);
        x = Check.street("size 6 6;", "", "");
        path("eight cells", x, 10, 0, 22, 2, 0, 1, 2, 3, 4, 10, 16, 22);
        path("nine cells", x, 10, 0, 23, 2);
        C.due("luck of nine", x.luck(0, 0, 0, 0, 10, 0, 23), -1);
        C.due("SHORT of nine", x.way(0, 0, 0, 0, 10, 0, 23, 0, 0), 9);
        C.due("SPARE of nine", x.way(0, 0, 0, 0, 10, 0, 23, 1, 0), 9);
        x = Check.street("size 2 6;weak 1 9;weak 3 9;weak 5 9;weak 7 9;weak 9 9;weak 11 9;crack 0 1;", "lane 2 0;", "");
        C.due("two of seven give way", x.luck(0, 0, 0, 0, 10, 0, 10), 100_000);
        x = Check.street("size 2 4;weak 0 9;weak 1 8;weak 2 9;weak 3 9;weak 4 9;weak 5 9;weak 6 9;weak 7 9;",
            "lane 2 0;lane 5 3;lane 4 2;lane 2 3;lane 5 7;lane 4 5;lane 6 4;", "");
        C.due("no way by lanes", x.luck(0, 0, 0, 0, 10, 0, 6), -1);
    }

    private static void shopsInTheWay() {
        IceStreet x = Check.street("size 3 2;bear 1;all 10;shop 1 20 0 1;", "", "");
        path("round a shop", x, 90, 0, 2, 0, 0, 3, 4, 5, 2);
        path("its load", x, 91, 0, 2, 0);
        path("not to a shop", x, 1, 0, 1, 0);
        path("from a shop, it weighs yet", x, 91, 1, 5, 0);
        path("from a shop", x, 90, 1, 5, 0, 1, 2, 5);
        C.due("from all but it", x.from(0, 0, 0, 0, 90, 0), 0b111100);
        C.due("most", x.most(0, 0, 0, 0, 0, 5), 90);
    }

    private static void mostAndFrom() {
        IceStreet x = Check.street(LAKE, "", "");
        C.due("most", x.most(0, 0, 0, 0, 0, 8), 36);
        C.due("most back", x.most(0, 0, 0, 0, 8, 0), 36);
        C.due("most beside", x.most(0, 0, 0, 0, 1, 2), 100);
        C.due("most to thin ice", x.most(0, 0, 0, 0, 5, 4), 16);
        C.due("999 at most", Check.street("bear 1;all 99;", "", "").most(0, 0, 0, 0, 0, 15), 999);
        C.due("999 just", Check.street("bear 4;all 64;", "", "").most(0, 0, 0, 0, 0, 15), 999);
        C.due("cut", Check.street("bear 50;all 99;", "", "").most(0, 0, 0, 0, 0, 15), 196);
        C.due("1 at least", Check.street("bear 9;all 3;", "", "").most(0, 0, 0, 0, 0, 15), 1);
        C.due("none", Check.street("bear 10;all 3;", "", "").most(0, 0, 0, 0, 0, 15), -1);
        C.due("none by least", Check.street("", "least 21;", "").most(0, 0, 0, 0, 0, 15), -1);
        C.due("from", x.from(0, 0, 0, 0, 30, 0), 0b111101100);
        C.due("from for little", x.from(0, 0, 0, 0, 10, 0), 0b111111110);
        C.due("from for much", x.from(0, 0, 0, 0, 50, 0), 0);
        C.due("from elsewhere", x.from(0, 0, 0, 0, 50, 8), 0b000100100);
        C.due("from by lanes", Check.street(LAKE, "lane 1 0;lane 3 0;", "").from(0, 0, 0, 0, 1, 0), 0);
        C.due("from 999", x.from(0, 0, 0, 0, 999, 0), 0);
        for (int load : new int[] {0, -1, 1000}) {
            C.due("from for " + load, x.from(0, 0, 0, 0, load, 0), -1);
        }
        C.due("from 9", x.from(0, 0, 0, 0, 1, 9), -1);
        C.due("from -1", x.from(0, 0, 0, 0, 1, -1), -1);
        C.due("from in no state", x.from(0, 0, 0, 1, 1, 0), -1);
    }

    private static void sawnAndNeeds() {
        IceStreet x = Check.street(LAKE, "", "");
        C.due("two cells", x.sawn(0, 0, 0, 0, 10, 0, 8), 2);
        C.due("one cell", x.sawn(0, 0, 0, 0, 30, 0, 8), 1);
        C.due("no way", x.sawn(0, 0, 0, 0, 37, 0, 8), 0);
        C.due("side by side", x.sawn(0, 0, 0, 0, 10, 0, 1), -1);
        C.due("side by side, too thin", x.sawn(0, 0, 0, 0, 50, 0, 1), 0);
        C.due("side by side, against a lane", Check.street(LAKE, "lane 1 0;", "").sawn(0, 0, 0, 0, 10, 0, 1), 1);
        C.due("three cells", Check.street("size 4 4;", "", "").sawn(0, 0, 0, 0, 10, 4, 7), 3);
        C.due("four cells", Check.street("size 6 6;", "", "").sawn(0, 0, 0, 0, 10, 7, 28), 4);
        C.due("needs none", x.needs(0, 0, 0, 0, 10, 0, 8), 0);
        C.due("needs three", x.needs(0, 0, 0, 0, 30, 0, 8), 0b011001000);
        C.due("needs where there is no way", x.needs(0, 0, 0, 0, 37, 0, 8), -1);
        C.due("needs none between", x.needs(0, 0, 0, 0, 10, 0, 1), 0);
        C.due("needs the first one alone", Check.street(LAKE, "lane 1 0;", "").needs(0, 0, 0, 0, 10, 0, 8), 0b1000);
    }

    private static void lacks() {
        IceStreet x = Check.street(LAKE, "lane 1 0;lane 3 0;lane 8 5;", "");
        C.due("struck", x.lacks(0, 0, 0, 0, 10, 0, 8, 0), 1);
        C.due("struck by thin ice", x.lacks(0, 0, 0, 0, 50, 0, 8, 0), -1);
        C.due("struck twice", Check.street(LAKE, "lane 1 0;lane 3 0;lane 8 5;lane 8 7;", "")
            .lacks(0, 0, 0, 0, 10, 0, 8, 0), 2);
        C.due("a lane told twice is struck once", Check.street(LAKE, "lane 1 0;lane 3 0;lane 1 0;", "")
            .lacks(0, 0, 0, 0, 10, 0, 1, 0), 1);
        C.due("not struck", x.lacks(0, 0, 0, 0, 10, 8, 0, 0), 0);
        C.due("thicker does not help", x.lacks(0, 0, 0, 0, 10, 0, 8, 1), -1);
        x = Check.street(LAKE, "", "");
        C.due("thick enough", x.lacks(0, 0, 0, 0, 36, 0, 8, 1), 0);
        C.due("thicker by 1", x.lacks(0, 0, 0, 0, 37, 0, 8, 1), 1);
        C.due("thicker by 26", x.lacks(0, 0, 0, 0, 999, 0, 8, 1), 26);
        C.due("by least", Check.street(LAKE, "least 99;", "").lacks(0, 0, 0, 0, 1, 0, 8, 1), 93);
        C.due("by 99", Check.street("bear 99;all 0;", "least 99;", "").lacks(0, 0, 0, 0, 99, 0, 8, 1), 99);
        C.due("by more than 99", Check.street("bear 99;all 0;", "", "").lacks(0, 0, 0, 0, 100, 0, 8, 1), -1);
        C.due("beyond 99", Check.street("bear 99;all 80;", "", "").lacks(0, 0, 0, 0, 300, 0, 8, 1), 93);
        x = Check.street(LAKE + "frost 0 1;", "", "");
        C.due("open", x.lacks(0, 0, 0, 0, 36, 0, 8, 2), 0);
        C.due("opens", x.lacks(0, 0, 0, 0, 37, 0, 8, 2), 2);
        C.due("opens on the 60th", Check.street("bear 1;all 1;frost 0 1;", "", "").lacks(0, 0, 0, 0, 961, 0, 8, 2), 60);
        C.due("opens on none", Check.street("bear 1;all 1;frost 0 1;", "", "").lacks(0, 0, 0, 0, 962, 0, 8, 2), -1);
        C.due("sort 3", x.lacks(0, 0, 0, 0, 10, 0, 8, 3), -1);
        C.due("sort -1", x.lacks(0, 0, 0, 0, 10, 0, 8, -1), -1);
    }

    private static void meet() {
        IceStreet x = Check.street(LAKE, "", "");
        C.due("in one cell", x.meet(0, 0, 0, 0, 10010, 200, 2, 0, false), 1);
        C.due("one passes the other", x.meet(0, 0, 0, 0, 10010, 200, 2, 1, false), -1);
        C.due("pause", x.meet(0, 0, 0, 0, 10010, 200, 2, 0, true), 1);
        // 25 bear 20, not 20 and the half of 20.
        C.due("near", x.meet(0, 0, 0, 0, 20020, 200, 2, 1, false), 1);
        C.due("where the first one ends", x.meet(0, 0, 0, 0, 20020, 200, 2, 2, false), 2);
        C.due("too late", x.meet(0, 0, 0, 0, 20020, 200, 2, 3, false), -1);
        C.due("pause of near ones", x.meet(0, 0, 0, 0, 20020, 200, 2, -9, true), 3);
        C.due("as much as it bears", x.meet(0, 0, 0, 0, 6022, 200, 2, 1, false), -1);
        C.due("a little more", x.meet(0, 0, 0, 0, 8022, 200, 2, 1, false), 1);
        C.due("the second one's cell", x.meet(0, 0, 0, 0, 22008, 2, 200, 1, false), 2);
        C.due("behind one another", x.meet(0, 0, 0, 0, 10010, 200, 200, 1, false), -1);
        C.due("with one another", x.meet(0, 0, 0, 0, 10010, 200, 200, 0, false), 0);
        IceStreet cracked = Check.street(LAKE + "crack 1 2;", "", "");
        C.due("a crack between", cracked.meet(0, 0, 0, 0, 20020, 200, 2, 1, false), -1);
        C.due("pause by a crack", cracked.meet(0, 0, 0, 0, 20020, 200, 2, 1, true), 1);
        C.due("no share", Check.street(LAKE, "share 0;", "").meet(0, 0, 0, 0, 20020, 200, 2, 1, false), -1);
        C.due("no pause", x.meet(0, 0, 0, 0, 10010, 100, 708, 0, true), 0);
        int[][] wrong = {{20000, 200, 2}, {20, 200, 2}, {1000020, 200, 2}, {-10010, 200, 2}, {10010, 900, 2},
            {10010, 200, 9}, {10010, 101, 2}, {10010, 200, 101}, {10010, -200, 2}, {10010, 200, -2}, {30010, 200, 103},
            {37010, 800, 800}, {10037, 800, 800}, {Integer.MIN_VALUE, 200, 2}, {10010, Integer.MAX_VALUE, 2}};
        for (int[] w : wrong) {
            C.due("wrong " + w[0] + " " + w[1] + " " + w[2], x.meet(0, 0, 0, 0, w[0], w[1], w[2], 0, false), -1);
            C.due("wrong pause " + w[0] + " " + w[1] + " " + w[2], x.meet(0, 0, 0, 0, w[0], w[1], w[2], 0, true), -1);
        }
        C.due("later 41", x.meet(0, 0, 0, 0, 10010, 200, 2, 41, false), -1);
        C.due("later 40", x.meet(0, 0, 0, 0, 10010, 200, 2, 40, false), -1);
        C.due("later -1", x.meet(0, 0, 0, 0, 10010, 200, 2, -1, false), -1);
        C.due("no such state", x.meet(0, 0, 0, 1, 10010, 200, 2, 0, false), -1);
    }

    private static void wrongTrips() {
        IceStreet x = Check.street(LAKE, "", "day;sweep 9;");
        // plan, n, load, from, to
        int[][] wrong = {{0, 0, 0, 0, 8}, {0, 0, -1, 0, 8}, {0, 0, 1000, 0, 8}, {0, 0, 10, -1, 8}, {0, 0, 10, 9, 8},
            {0, 0, 10, 0, -1}, {0, 0, 10, 0, 9}, {0, 0, 10, 4, 4}, {0, 2, 10, 0, 8}, {0, -1, 10, 0, 8}, {1, 0, 10, 0, 8},
            {-2, 0, 10, 0, 8}, {-1, 1, 10, 0, 8}};
        for (int[] w : wrong) {
            String what = "plan " + w[0] + " n " + w[1] + " load " + w[2] + " from " + w[3] + " to " + w[4] + ": ";
            for (int sort = 0; sort < 3; sort++) {
                C.due(what + "way", x.way(0, 0, w[0], w[1], w[2], w[3], w[4], sort, 0), -1);
                C.due(what + "way 1", x.way(0, 0, w[0], w[1], w[2], w[3], w[4], sort, 1), -1);
                C.due(what + "lacks", x.lacks(0, 0, w[0], w[1], w[2], w[3], w[4], sort), -1);
            }
            C.due(what + "luck", x.luck(0, 0, w[0], w[1], w[2], w[3], w[4]), -1);
            C.due(what + "thaw", x.thaw(0, 0, w[0], w[1], w[2], w[3], w[4]), -1);
            C.due(what + "sawn", x.sawn(0, 0, w[0], w[1], w[2], w[3], w[4]), -1);
            C.due(what + "needs", x.needs(0, 0, w[0], w[1], w[2], w[3], w[4]), -1);
            C.due(what + "branches", x.branches(0, 0, w[0], w[1], w[2], w[3], w[4], 0), -1);
            C.due(what + "old", x.old(0, 0, w[0], w[1], w[2], w[3], w[4], 0b100100111L), -1);
            if (w[2] == 10) {
                C.due(what + "most", x.most(0, 0, w[0], w[1], w[3], w[4]), -1);
            }
        }
        for (int what : new int[] {-1, 2, 9, 15, Integer.MIN_VALUE, Integer.MAX_VALUE}) {
            C.due("way what " + what, x.way(0, 0, 0, 0, 10, 0, 8, 0, what), -1);
        }
        C.due("way sort 3", x.way(0, 0, 0, 0, 10, 0, 8, 3, 0), -1);
        C.due("way sort -1", x.way(0, 0, 0, 0, 10, 0, 8, -1, 0), -1);
        C.due("way by no law", x.way(0, 1, 0, 0, 10, 0, 8, 0, 0), -1);
        C.due("way on no lake", x.way(1, 0, 0, 0, 10, 0, 8, 0, 0), -1);
    }
}
