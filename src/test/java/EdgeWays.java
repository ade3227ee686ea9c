/** WAYS of Terms 3 to 5 and promises 14 to 17, 24 to 26, 28, 29, 34, 35, sentence by sentence. */
final class EdgeWays {
    private static final int[] WRONG_LOADS = {0, -1, 1000, Integer.MIN_VALUE, Integer.MAX_VALUE};
    private static final int[] WRONG_CELLS = {6, -1, 35, 36, 64, Integer.MIN_VALUE, Integer.MAX_VALUE};
    // What the CELLS bear:
    // 100  25 100
    //  36  16 100
    // 100  49 100
    private static final String LAKE = "size 3 3;bear 1;all 10;ice 1 5;ice 3 6;ice 4 4;ice 7 7;";
    /** One row of CELLS from 0 to 35, to and fro over all of 6 by 6. */
    private static final String WINDING = "size 6 6;ice 6 0;ice 7 0;ice 8 0;ice 9 0;ice 10 0;ice 19 0;ice 20 0;ice 21 0;"
        + "ice 22 0;ice 23 0;ice 30 0;ice 31 0;ice 32 0;ice 33 0;ice 34 0;";
    /** CELLS of SHORT from 0 to 2 of three columns and two rows. */
    private static final long UPPER_ROW = 0b000111;

    private final Edge e;

    EdgeWays(Edge edge) {
        e = edge;
    }

    /** What is asked of a load and two CELLS. */
    interface Trip {
        long of(IceStreet x, int lake, int law, int plan, int n, int load, int from, int to);
    }

    void all() {
        most();
        spare();
        lucky();
        from();
        branches();
        thaw();
        sawn();
        meet();
        lacks();
        needs();
        way();
        luckMostFrom();
        branchesAndOld();
        thawAndSawn();
        meetings();
        lacking();
    }

    private static IceStreet street(String lake, String law) {
        return Check.street(lake, law, "");
    }

    private void path(String what, IceStreet x, int sort, int load, int from, int to, int... cells) {
        e.at(what + ", how many", x.way(0, 0, 0, 0, load, from, to, sort, 0), cells.length);
        for (int i = 0; i < cells.length; i++) {
            e.at(what + ", CELL " + i, x.way(0, 0, 0, 0, load, from, to, sort, 10 + i), cells[i]);
        }
        e.beyond(what + ", behind the last", x.way(0, 0, 0, 0, load, from, to, sort, 10 + cells.length), -1);
    }

    private void most() {
        e.section("Terms 3");
        e.tells("(In a STATE.)");
        IceStreet x = Check.street("size 2 2;bear 1;all 10;frost -1;", "", "day;day;");
        e.at("MOST at first", x.most(0, 0, 0, 0, 0, 1), 100);
        e.at("MOST behind a day", x.most(0, 0, 0, 1, 0, 1), 81);
        e.at("MOST behind two", x.most(0, 0, 0, 2, 0, 1), 64);

        e.says("MOST of two CELLS: the greatest load, 1 .. 999, for which there is a WAY.");
        int[][] mosts = {{9, 3, 1}, {10, 3, -1}, {1, 1, 1}, {1, 0, -1}, {4, 64, 999}, {4, 63, 992}, {1, 32, 999}, {1, 31, 961},
            {1, 99, 999}, {10, 99, 980}, {99, 99, 99}};
        for (int[] m : mosts) {
            x = street("bear " + m[0] + ";all " + m[1] + ";", "");
            int got = x.most(0, 0, 0, 0, 0, 15);
            e.at(m[1] + " inches by " + m[0], got, m[2]);
            e.at("a WAY for it", x.way(0, 0, 0, 0, m[2], 0, 15, 0, 0), m[2] < 0 ? -1 : 7);
            e.beyond("for one more", x.way(0, 0, 0, 0, Math.max(0, m[2]) + 1, 0, 15, 0, 0), -1);
        }
        x = street(LAKE, "");
        e.at("round thin ice", x.most(0, 0, 0, 0, 0, 8), 36);
        e.at("from thin ice", x.most(0, 0, 0, 0, 4, 5), 100);
        e.beyond("to thin ice", x.most(0, 0, 0, 0, 5, 4), 16);
    }

    private void spare() {
        e.says("SPARE: of WAYS for a load that with the most that its CELLS but the first BEAR more, at the least of them;");
        IceStreet x = street(LAKE, "");
        path("most at the least", x, 1, 10, 0, 8, 0, 3, 6, 7, 8);
        e.at("how much more", x.way(0, 0, 0, 0, 10, 0, 8, 1, 1), 26);
        e.at("the first does not matter", x.way(0, 0, 0, 0, 10, 4, 8, 1, 1), 90);
        e.at("0 more", x.way(0, 0, 0, 0, 36, 0, 8, 1, 1), 0);
        e.beyond("a load too heavy", x.way(0, 0, 0, 0, 37, 0, 8, 1, 1), -1);
        x = street("size 3 2;bear 1;all 10;ice 1 9;shop 5 30 0 1;", "");
        path("LOADS count, too", x, 1, 10, 0, 2, 0, 1, 2);
        e.at("100 less 15 less 10, 81 less 10", x.way(0, 0, 0, 0, 10, 0, 2, 1, 1), 71);
        x = street("size 2 2;bear 1;all 99;", "");
        e.at("more than 999", x.way(0, 0, 0, 0, 1, 0, 3, 1, 1), 9800);
        // The least CELL is on all WAYS: how much the others bear does not matter.
        x = street("size 3 2;bear 1;all 10;ice 1 5;ice 2 3;", "");
        path("the last is least on all", x, 1, 1, 0, 2, 0, 1, 2);

        e.says("of several the SHORT one, of these the first by rows.");
        x = street("size 3 3;", "");
        path("the first by rows", x, 1, 1, 0, 8, 0, 1, 2, 5, 8);
        path("the first by rows back", x, 1, 1, 8, 0, 8, 5, 2, 1, 0);
        x = street("size 3 3;ice 1 30;ice 2 30;", "");
        path("the SHORT one", x, 1, 1, 0, 4, 0, 1, 4);
        x = street("size 3 3;ice 1 19;", "");
        path("not the first by rows, if it has less", x, 1, 1, 0, 4, 0, 3, 4);
        path("nor the SHORT one", x, 1, 1, 0, 2, 0, 3, 4, 5, 2);
    }

    private void lucky() {
        e.says("LUCKY of at most 8 CELLS: of WAYS for a load");
        IceStreet x = street("size 6 6;", "");
        path("8 CELLS", x, 2, 40, 0, 32, 0, 1, 2, 8, 14, 20, 26, 32);
        e.at("its chance", x.luck(0, 0, 0, 0, 40, 0, 32), 10_000_000);
        e.beyond("9 CELLS", x.way(0, 0, 0, 0, 40, 0, 33, 2, 0), -1);
        e.beyond("its chance", x.luck(0, 0, 0, 0, 40, 0, 33), -1);
        e.beyond("too heavy", x.way(0, 0, 0, 0, 41, 0, 32, 2, 0), -1);
        // Weak ice in three columns of a row: two CELLS more go round it, 8 to 20, but 10 to 32.
        x = street("size 6 6;weak 12 9;weak 13 9;weak 14 9;", "");
        path("round weak ice", x, 2, 1, 0, 20, 0, 1, 2, 3, 9, 15, 21, 20);
        e.at("its chance", x.luck(0, 0, 0, 0, 1, 0, 20), 10_000_000);
        path("over weak ice", x, 2, 1, 0, 32, 0, 1, 2, 8, 14, 20, 26, 32);
        e.beyond("its chance", x.luck(0, 0, 0, 0, 1, 0, 32), 1_000_000);

        e.says("each CELL but the first of which gives way by WEAK of 10, that with the greatest chance "
            + "(in parts of 10 to 7; CELLS that are fewer count 10 of 10);");
        x = street("size 6 2;weak 0 9;weak 1 9;weak 2 9;weak 3 9;weak 4 9;weak 5 9;ice 6 0;ice 7 0;ice 8 0;ice 9 0;ice 10 0;",
            "");
        e.at("one CELL but the first", x.luck(0, 0, 0, 0, 1, 0, 1), 1_000_000);
        e.at("two", x.luck(0, 0, 0, 0, 1, 0, 2), 100_000);
        e.at("five", x.luck(0, 0, 0, 0, 1, 0, 5), 100);
        e.at("six", x.luck(0, 0, 0, 0, 1, 0, 11), 100);
        e.beyond("to open water", x.luck(0, 0, 0, 0, 1, 0, 6), -1);
        StringBuilder all = new StringBuilder("size 6 6;");
        for (int c = 0; c < 36; c++) {
            all.append("weak ").append(c).append(" 9;");
        }
        x = street(all.toString(), "");
        e.at("seven of the weakest", x.luck(0, 0, 0, 0, 1, 0, 32), 1);
        x = street("size 6 6;", "");
        e.at("none weak", x.luck(0, 0, 0, 0, 1, 0, 32), 10_000_000);
        x = street("size 3 2;weak 0 9;weak 1 3;weak 3 1;weak 4 1;weak 5 1;", "");
        path("a longer, luckier one", x, 2, 1, 0, 2, 0, 3, 4, 5, 2);
        e.at("9 * 9 * 9 * 10", x.luck(0, 0, 0, 0, 1, 0, 2), 7_290_000);
        x = street("size 3 2;weak 0 9;weak 1 2;weak 3 1;weak 4 1;weak 5 1;", "");
        path("a shorter, luckier one", x, 2, 1, 0, 2, 0, 1, 2);
        e.at("8 * 10 * 10 * 10", x.luck(0, 0, 0, 0, 1, 0, 2), 8_000_000);

        e.says("of several the fewest CELLS, then the first by rows.");
        x = street("size 3 2;", "");
        path("the fewest", x, 2, 1, 0, 2, 0, 1, 2);
        path("the first by rows", x, 2, 1, 3, 2, 3, 0, 1, 2);
        x = street("size 3 2;weak 0 1;", "");
        path("of the same chance", x, 2, 1, 3, 2, 3, 4, 1, 2);
        x = street("size 3 2;weak 0 1;weak 4 1;weak 5 1;", "");
        path("of the same chance, the first", x, 2, 1, 3, 2, 3, 0, 1, 2);
    }

    private void from() {
        e.says("FROM a CELL: all CELLS (bits) to which there is a WAY for a load.");
        IceStreet x = street(LAKE, "");
        e.at("25", x.from(0, 0, 0, 0, 25, 0), 0b111101110);
        e.beyond("26", x.from(0, 0, 0, 0, 26, 0), 0b111101100);
        e.at("36", x.from(0, 0, 0, 0, 36, 0), 0b111101100);
        e.beyond("37", x.from(0, 0, 0, 0, 37, 0), 0);
        e.at("all of 6 by 6", street("size 6 6;", "").from(0, 0, 0, 0, 40, 0), (1L << 36) - 2);
        e.beyond("none of 6 by 6", street("size 6 6;", "").from(0, 0, 0, 0, 41, 0), 0);
        e.at("along a LANE", street("size 2 2;", "lane 1 0;lane 0 2;").from(0, 0, 0, 0, 1, 0), 0b1110);
        e.beyond("against a LANE", street("size 2 2;ice 3 0;", "lane 1 0;lane 0 2;").from(0, 0, 0, 0, 1, 0), 0b0100);
    }

    private void branches() {
        e.section("Terms 4");
        e.says("BRANCHES: CELLS (bits) of SHORT of a told load on a DAY, 0 .. 30, to come:");
        // CELL 1 bears 9 now, and 16 on the next DAY: at first SHORT goes round it.
        IceStreet x = street("size 3 2;bear 1;all 7;ice 1 3;frost 1;", "");
        e.at("on DAY 0", x.branches(0, 0, 0, 0, 10, 0, 2, 0), 0b111101);
        e.at("on DAY 1", x.branches(0, 0, 0, 0, 10, 0, 2, 1), UPPER_ROW);
        e.at("on DAY 30", x.branches(0, 0, 0, 0, 999, 0, 2, 30), UPPER_ROW);
        e.beyond("on DAY 31", x.branches(0, 0, 0, 0, 1, 0, 2, 31), -1);
        e.beyond("on DAY -1", x.branches(0, 0, 0, 0, 1, 0, 2, -1), -1);

        e.says("OLD: the first DAY, 0 .. 30, on which these are just told ones.");
        e.at("DAY 0", x.old(0, 0, 0, 0, 10, 0, 2, 0b111101), 0);
        e.at("DAY 1", x.old(0, 0, 0, 0, 10, 0, 2, UPPER_ROW), 1);
        e.beyond("one more CELL", x.old(0, 0, 0, 0, 10, 0, 2, 0b001111), -1);
        e.beyond("one less", x.old(0, 0, 0, 0, 10, 0, 2, 0b000101), -1);
        x = street("size 2 2;bear 1;all 1;frost 1;", "");
        e.at("DAY 30", x.old(0, 0, 0, 0, 961, 0, 1, 0b11), 30);
        e.beyond("DAY 31", x.old(0, 0, 0, 0, 962, 0, 1, 0b11), -1);
        x = street("size 3 2;bear 1;all 4;ice 1 3;frost 1 -1;", "");
        e.at("the first of many", x.old(0, 0, 0, 0, 16, 0, 2, UPPER_ROW), 1);
    }

    private void thaw() {
        e.says("THAW: behind how many DAYS, 0 .. 60, there is no WAY for a load from one CELL to another one first.");
        e.at("0", street("all 3;", "").thaw(0, 0, 0, 0, 1, 0, 1), 0);
        e.at("1", street("bear 1;all 1;frost -1;", "").thaw(0, 0, 0, 0, 1, 0, 1), 1);
        e.at("60", street("bear 1;all 60;frost -1;", "").thaw(0, 0, 0, 0, 1, 0, 1), 60);
        e.beyond("61", street("bear 1;all 61;frost -1;", "").thaw(0, 0, 0, 0, 1, 0, 1), -1);
        e.at("first, though there is one later", street("all 20;frost -1 1;", "").thaw(0, 0, 0, 0, 40, 0, 1), 1);
        e.at("a SHOP that falls frees the WAY", Check.street("size 3 2;all 20;ice 3 0;frost -1;shop 1 40 0 1;", "share 0;", "")
            .thaw(0, 0, 0, 0, 1, 0, 2), 0);
    }

    private void sawn() {
        e.says("SAWN of a load and two CELLS: the fewest CELLS, none of both, without which there is no WAY.");
        e.at("1", street("size 3 2;ice 3 0;", "").sawn(0, 0, 0, 0, 1, 0, 2), 1);
        e.at("2", street("size 3 2;", "").sawn(0, 0, 0, 0, 1, 0, 2), 2);
        e.at("3", street("size 3 3;", "").sawn(0, 0, 0, 0, 1, 3, 5), 3);
        e.at("4", street("size 6 6;", "").sawn(0, 0, 0, 0, 1, 7, 28), 4);
        e.at("4, close together", street("size 5 5;", "").sawn(0, 0, 0, 0, 1, 6, 8), 4);
        e.at("2, CELL 0 being one", street("size 2 2;", "").sawn(0, 0, 0, 0, 1, 1, 2), 2);
        e.at("1, CELL 0", street("size 2 2;ice 3 0;", "").sawn(0, 0, 0, 0, 1, 1, 2), 1);
        e.at("1, CELL 35", street("size 6 6;ice 28 0;ice 23 0;", "").sawn(0, 0, 0, 0, 1, 34, 29), 1);
        e.beyond("0", street("size 3 2;ice 1 0;ice 3 0;", "").sawn(0, 0, 0, 0, 1, 0, 2), 0);
        e.beyond("by none", street("size 3 2;", "").sawn(0, 0, 0, 0, 1, 0, 1), -1);
        e.at("one for a heavier load", street(LAKE, "").sawn(0, 0, 0, 0, 36, 0, 8), 1);
        e.at("two for a light one", street(LAKE, "").sawn(0, 0, 0, 0, 25, 0, 8), 2);
    }

    private void meet() {
        // 0 1 2 3 4 5
        // 6 . . . . 11     40 are borne.
        IceStreet x = street("size 6 2;", "");
        e.says("MEET of two loads, each by SHORT of its own from one CELL to another one, a CELL a minute, "
            + "the second one beginning so many minutes later:");
        e.at("head on, an odd row", x.meet(0, 0, 0, 0, 1001, 400, 4, 0, false), 2);
        e.at("a minute later: they pass", x.meet(0, 0, 0, 0, 1001, 400, 4, 1, false), -1);
        e.at("two minutes later", x.meet(0, 0, 0, 0, 1001, 400, 4, 2, false), 3);
        e.at("four minutes later", x.meet(0, 0, 0, 0, 1001, 400, 4, 4, false), 4);
        e.beyond("five minutes later", x.meet(0, 0, 0, 0, 1001, 400, 4, 5, false), -1);

        e.says("the first minute (of the first one's, from 0 on) at which both are on their ways and in one CELL");
        e.at("minute 0", x.meet(0, 0, 0, 0, 1001, 400, 500, 0, false), 0);
        e.at("the last minute", x.meet(0, 0, 0, 0, 1001, 400, 4, 4, false), 4);
        e.at("where the second one begins", x.meet(0, 0, 0, 0, 1001, 400, 102, 2, false), 2);
        e.beyond("one too late", x.meet(0, 0, 0, 0, 1001, 400, 102, 3, false), -1);
        e.beyond("one too early", x.meet(0, 0, 0, 0, 1001, 400, 1102, 0, false), -1);

        e.says("or in NEAR ones of which one does not BEAR its own load, its LOAD and SHARE of 10 of the other load, cut");
        // By 1 minute later they are side by side in minute 2: at 2 and 3.
        e.at("30 and the half of 20", x.meet(0, 0, 0, 0, 20030, 400, 4, 1, false), -1);
        e.beyond("31 and the half of 20", x.meet(0, 0, 0, 0, 20031, 400, 4, 1, false), 2);
        e.at("30 and the half of 21, cut", x.meet(0, 0, 0, 0, 21030, 400, 4, 1, false), -1);
        e.beyond("30 and the half of 22", x.meet(0, 0, 0, 0, 22030, 400, 4, 1, false), 2);
        e.at("the second one's, 30", x.meet(0, 0, 0, 0, 30020, 400, 4, 1, false), -1);
        e.beyond("the second one's, 31", x.meet(0, 0, 0, 0, 31020, 400, 4, 1, false), 2);
        IceStreet cracked = street("size 6 2;crack 2 3;", "");
        e.at("a CRACK between", cracked.meet(0, 0, 0, 0, 31031, 400, 4, 1, false), -1);
        IceStreet beside = street("size 6 2;shop 8 10 0 1;", "");
        e.at("a LOAD of 5: 25 and 10", beside.meet(0, 0, 0, 0, 20025, 400, 4, 1, false), -1);
        e.beyond("a LOAD of 5: 26 and 10", beside.meet(0, 0, 0, 0, 20026, 400, 4, 1, false), 2);
        e.at("SHARE 0", street("size 6 2;", "share 0;").meet(0, 0, 0, 0, 40040, 400, 4, 1, false), -1);
        e.at("SHARE 10, 20 and 20", street("size 6 2;", "share 10;").meet(0, 0, 0, 0, 20020, 400, 4, 1, false), -1);
        e.beyond("SHARE 10, 20 and 21", street("size 6 2;", "share 10;").meet(0, 0, 0, 0, 20021, 400, 4, 1, false), 2);
        e.beyond("one above the other", x.meet(0, 0, 0, 0, 31031, 400, 1006, 0, false), 0);
        e.at("across", x.meet(0, 0, 0, 0, 31031, 300, 1007, 0, false), -1);

        e.says("(each before it begins, and behind its last CELL, is nowhere).");
        e.at("it begins when the other one is there", x.meet(0, 0, 0, 0, 1001, 300, 403, 3, false), 3);
        e.beyond("the other one is behind its last CELL", x.meet(0, 0, 0, 0, 1001, 300, 403, 4, false), -1);
        e.beyond("it has not begun yet", x.meet(0, 0, 0, 0, 1001, 401, 502, 3, false), -1);
        e.beyond("it is behind its last CELL", x.meet(0, 0, 0, 0, 1001, 400, 102, 0, false), 1);
        e.beyond("it is gone when the first one comes", x.meet(0, 0, 0, 0, 1001, 500, 403, 0, false), -1);
        e.at("a longer one", x.meet(0, 0, 0, 0, 1001, 4, 500, 0, false), 2);
        e.beyond("a shorter one then", x.meet(0, 0, 0, 0, 1001, 4, 100, 0, false), -1);

        e.says("PAUSE: the fewest minutes, 0 .. 40, which the second one should begin later, so that they do not MEET.");
        e.at("0", x.meet(0, 0, 0, 0, 1001, 400, 1106, 0, true), 0);
        e.at("1", x.meet(0, 0, 0, 0, 1001, 400, 4, 0, true), 1);
        e.at("with one another", x.meet(0, 0, 0, 0, 1001, 400, 400, 0, true), 1);
        e.at("heavy ones, head on: 5 CELLS", x.meet(0, 0, 0, 0, 40040, 400, 4, 0, true), 5);
        e.beyond("a CELL more", x.meet(0, 0, 0, 0, 40040, 500, 5, 0, true), 6);
    }

    private void lacks() {
        e.section("Terms 5");
        e.says("STRUCK of a load and two CELLS: how many steps against LANES one must take at least, "
            + "so that there would be a WAY, if these were allowed.");
        String strip = "size 4 2;ice 4 0;ice 5 0;ice 6 0;ice 7 0;";
        e.at("0", street(strip, "lane 0 1;").lacks(0, 0, 0, 0, 1, 0, 3, 0), 0);
        e.at("1", street(strip, "lane 1 0;").lacks(0, 0, 0, 0, 1, 0, 3, 0), 1);
        e.at("2", street(strip, "lane 1 0;lane 3 2;").lacks(0, 0, 0, 0, 1, 0, 3, 0), 2);
        e.at("3", street(strip, "lane 1 0;lane 3 2;lane 2 1;").lacks(0, 0, 0, 0, 1, 0, 3, 0), 3);
        e.at("round it", street("size 4 2;", "lane 1 0;lane 3 2;lane 2 1;").lacks(0, 0, 0, 0, 1, 0, 3, 0), 0);
        e.at("at least", street("size 4 2;", "lane 1 0;lane 3 2;lane 5 4;").lacks(0, 0, 0, 0, 1, 0, 3, 0), 1);
        e.beyond("open water", street("size 4 2;ice 1 0;ice 5 0;", "").lacks(0, 0, 0, 0, 1, 0, 3, 0), -1);
        e.at("40", street(strip, "lane 1 0;").lacks(0, 0, 0, 0, 40, 0, 3, 0), 1);
        e.beyond("41", street(strip, "lane 1 0;").lacks(0, 0, 0, 0, 41, 0, 3, 0), -1);

        e.says("THICKER: by how much, 0 .. 99, all CELLS must be THICKER at least (beyond 99, too), so that there is a WAY.");
        e.at("0", street("bear 1;all 9;", "").lacks(0, 0, 0, 0, 81, 0, 3, 1), 0);
        e.at("1", street("bear 1;all 9;", "").lacks(0, 0, 0, 0, 82, 0, 3, 1), 1);
        e.at("1 by LEAST", street("bear 1;all 9;", "least 10;").lacks(0, 0, 0, 0, 1, 0, 3, 1), 1);
        e.at("99", street("bear 99;all 0;", "").lacks(0, 0, 0, 0, 99, 0, 3, 1), 99);
        e.beyond("100", street("bear 99;all 0;", "").lacks(0, 0, 0, 0, 100, 0, 3, 1), -1);
        e.at("beyond 99", street("bear 40;all 99;", "").lacks(0, 0, 0, 0, 980, 0, 3, 1), 99);
        e.beyond("198 bear 980, not 981", street("bear 40;all 99;", "").lacks(0, 0, 0, 0, 981, 0, 3, 1), -1);
        e.beyond("a SHOP stays", street("shop 3 1 0 1;", "").lacks(0, 0, 0, 0, 1, 0, 3, 1), -1);
        e.beyond("LANES stay", street("size 2 2;", "lane 1 0;lane 2 0;").lacks(0, 0, 0, 0, 1, 0, 3, 1), -1);

        e.says("OPENS: behind how many DAYS to come, 0 .. 60, there is one first.");
        e.at("0", street("bear 1;all 9;frost 1;", "").lacks(0, 0, 0, 0, 81, 0, 3, 2), 0);
        e.at("1", street("bear 1;all 9;frost 1;", "").lacks(0, 0, 0, 0, 82, 0, 3, 2), 1);
        e.at("first, though it closes again", street("all 20;frost 1 -1;", "").lacks(0, 0, 0, 0, 44, 0, 3, 2), 1);
        e.at("60", street("bear 99;all 39;frost 1;", "").lacks(0, 0, 0, 0, 99, 0, 3, 2), 60);
        e.beyond("61", street("bear 99;all 38;frost 1;", "").lacks(0, 0, 0, 0, 99, 0, 3, 2), -1);
    }

    private void needs() {
        e.says("NEEDS of a load and two CELLS: CELLS (bits), none of both, without each of which there is no WAY, "
            + "where there is one.");
        IceStreet x = street("size 3 3;ice 1 0;", "");
        e.at("the CELL beside the first", x.needs(0, 0, 0, 0, 1, 0, 8), 0b000001000);
        e.beyond("none", street("size 3 3;", "").needs(0, 0, 0, 0, 1, 0, 8), 0);
        e.at("all of a strip", street("size 4 2;ice 4 0;ice 5 0;ice 6 0;ice 7 0;", "").needs(0, 0, 0, 0, 1, 0, 3), 0b0110);
        e.beyond("none side by side", street("size 4 2;", "").needs(0, 0, 0, 0, 1, 0, 1), 0);
        e.beyond("no WAY", street("size 3 3;ice 1 0;ice 3 0;", "").needs(0, 0, 0, 0, 1, 0, 8), -1);
        e.at("the CELL beside the last", street("size 6 6;ice 29 0;", "").needs(0, 0, 0, 0, 1, 0, 35), 1L << 34);
        e.at("36", street(LAKE, "").needs(0, 0, 0, 0, 36, 0, 8), 0b011001000);
        e.beyond("25", street(LAKE, "").needs(0, 0, 0, 0, 25, 0, 8), 0);
    }

    /** Three columns, two rows, STOP 1; a load of 40 may go anywhere, at first and behind the ACT. */
    private static IceStreet plain() {
        return Check.street("size 3 2;", "", "day;sweep 6;");
    }

    private void loads(String what, Trip trip, long none) {
        IceStreet x = Check.street("size 3 2;bear 1;all 32;ice 0 0;ice 5 0;", "", "");
        e.at(what + " of a load of 1", trip.of(x, 0, 0, 0, 0, 1, 0, 2) != none, true);
        e.at(what + " of a load of 999", trip.of(x, 0, 0, 0, 0, 999, 0, 2) != none, true);
        for (int load : WRONG_LOADS) {
            e.beyond(what + " of a load of " + load, trip.of(x, 0, 0, 0, 0, load, 0, 2), none);
        }
    }

    private void bothAreOne(String what, Trip trip, long none) {
        IceStreet x = plain();
        e.at(what + " from 0 to 2", trip.of(x, 0, 0, 0, 0, 1, 0, 2) != none, true);
        for (int c = 0; c < 6; c++) {
            e.beyond(what + " from " + c + " to " + c, trip.of(x, 0, 0, 0, 0, 1, c, c), none);
        }
    }

    private void trips(String what, Trip trip, long none) {
        IceStreet x = plain();
        e.at(what + " from 0 to 5", trip.of(x, 0, 0, 0, 0, 1, 0, 5) != none, true);
        e.at(what + " from 5 to 0", trip.of(x, 0, 0, 0, 0, 1, 5, 0) != none, true);
        for (int c : WRONG_CELLS) {
            e.beyond(what + " from " + c, trip.of(x, 0, 0, 0, 0, 1, c, 2), none);
            e.beyond(what + " to " + c, trip.of(x, 0, 0, 0, 0, 1, 2, c), none);
        }
    }

    private void states(String what, Trip trip, long none) {
        IceStreet x = plain();
        e.statesUpTo(1, what, (lake, law, plan, n) -> trip.of(x, lake, law, plan, n, 40, 0, 2), none);
    }

    /** NONE, as way(): no STATE, load, CELLS, or both are one. */
    private void asWay(String what, Trip trip, long none) {
        states(what, trip, none);
        loads(what, trip, none);
        trips(what, trip, none);
        bothAreOne(what, trip, none);
    }

    private void way() {
        e.section("Promise 14");
        e.says("SHORT (sort 0), SPARE (1), LUCKY (2) for a load, 1 .. 999");
        // From 0 one can't step to 1: SPARE shuns the thinner ice there, LUCKY the weak ice of 5.
        IceStreet x = Check.street("size 3 2;bear 1;all 40;ice 1 33;weak 5 9;", "lane 1 0;", "");
        path("SHORT", street("size 3 2;bear 1;all 40;ice 1 33;", ""), 0, 999, 0, 2, 0, 1, 2);
        path("SPARE", x, 1, 999, 0, 2, 0, 3, 4, 5, 2);
        path("LUCKY", x, 2, 999, 0, 2, 0, 3, 4, 1, 2);
        for (int sort = 0; sort < 3; sort++) {
            int s = sort;
            e.at("sort " + s, x.way(0, 0, 0, 0, 1, 0, 2, s, 0), 5);
            loads("sort " + s, (y, lake, law, plan, n, load, from, to) -> y.way(lake, law, plan, n, load, from, to, s, 0), -1);
        }
        for (int sort : new int[] {3, -1, Integer.MIN_VALUE, Integer.MAX_VALUE}) {
            for (int what : new int[] {0, 1, 10}) {
                e.beyond("sort " + sort + " what " + what, x.way(0, 0, 0, 0, 1, 0, 2, sort, what), -1);
            }
        }

        e.says("what 0: how many CELLS");
        IceStreet y = street("size 6 6;", "");
        e.at("2, the fewest", y.way(0, 0, 0, 0, 1, 0, 1, 0, 0), 2);
        e.at("11", y.way(0, 0, 0, 0, 1, 0, 35, 0, 0), 11);
        IceStreet snake = street(WINDING, "");
        e.at("the longest", snake.way(0, 0, 0, 0, 1, 0, 35, 0, 0), 6 + 1 + 6 + 1 + 6 + 1);
        e.at("its last", snake.way(0, 0, 0, 0, 1, 0, 35, 0, 30), 35);
        e.beyond("behind its last", snake.way(0, 0, 0, 0, 1, 0, 35, 0, 31), -1);

        e.says("1: SPARE's most that they BEAR more, or 0");
        IceStreet z = street("size 2 2;", "");
        e.at("SPARE's", z.way(0, 0, 0, 0, 30, 0, 3, 1, 1), 10);
        e.at("SPARE's of 40", z.way(0, 0, 0, 0, 40, 0, 3, 1, 1), 0);
        e.beyond("SPARE's of 41", z.way(0, 0, 0, 0, 41, 0, 3, 1, 1), -1);
        e.at("SHORT's", z.way(0, 0, 0, 0, 30, 0, 3, 0, 1), 0);
        e.at("LUCKY's", z.way(0, 0, 0, 0, 30, 0, 3, 2, 1), 0);
        e.beyond("SHORT's of 41", z.way(0, 0, 0, 0, 41, 0, 3, 0, 1), -1);
        e.beyond("LUCKY's of 41", z.way(0, 0, 0, 0, 41, 0, 3, 2, 1), -1);

        e.says("10 + i: the i-th CELL.");
        for (int sort = 0; sort < 3; sort++) {
            e.at("CELL 0", z.way(0, 0, 0, 0, 30, 0, 3, sort, 10), 0);
            e.at("CELL 1", z.way(0, 0, 0, 0, 30, 0, 3, sort, 11), 1);
            e.at("CELL 2", z.way(0, 0, 0, 0, 30, 0, 3, sort, 12), 3);
            e.beyond("CELL 3", z.way(0, 0, 0, 0, 30, 0, 3, sort, 13), -1);
            e.beyond("CELL -1", z.way(0, 0, 0, 0, 30, 0, 3, sort, 9), -1);
        }
        noWay();
    }

    private void noWay() {
        e.says("NONE: there is no WAY");
        IceStreet z = street("size 2 2;", "");
        for (int sort = 0; sort < 3; sort++) {
            for (int what : new int[] {0, 1, 10}) {
                e.at("40, sort " + sort + " what " + what, z.way(0, 0, 0, 0, 40, 0, 3, sort, what) != -1, true);
                e.beyond("41, sort " + sort + " what " + what, z.way(0, 0, 0, 0, 41, 0, 3, sort, what), -1);
            }
        }
        Trip[] sorts = new Trip[3];
        for (int sort = 0; sort < 3; sort++) {
            int s = sort;
            sorts[s] = (y, lake, law, plan, n, load, from, to) -> y.way(lake, law, plan, n, load, from, to, s, 1);
        }
        e.says("both are one");
        for (Trip trip : sorts) {
            bothAreOne("way", trip, -1);
        }
        e.says("no such STATE");
        for (Trip trip : sorts) {
            states("way", trip, -1);
        }
        e.says("none such (of any)");
        for (Trip trip : sorts) {
            trips("way", trip, -1);
        }
        e.says("or for another what.");
        for (int sort = 0; sort < 3; sort++) {
            e.at("what 1", z.way(0, 0, 0, 0, 40, 0, 3, sort, 1), 0);
            for (int what : new int[] {2, -1, 9, 13, 45, 46, Integer.MIN_VALUE, Integer.MAX_VALUE}) {
                e.beyond("what " + what, z.way(0, 0, 0, 0, 40, 0, 3, sort, what), -1);
            }
        }
    }

    private void luckMostFrom() {
        e.section("Promise 15");
        e.tells("The chance of LUCKY, in parts.");
        IceStreet x = street("size 3 2;weak 1 4;weak 2 5;weak 4 1;", "");
        e.at("6 * 5, and 5 fewer", x.luck(0, 0, 0, 0, 1, 1, 2), 5_000_000);
        e.at("two CELLS", x.luck(0, 0, 0, 0, 1, 0, 1), 6_000_000);
        e.at("by 3 4 5", x.luck(0, 0, 0, 0, 1, 0, 2), 4_500_000);
        e.says("NONE: as way().");
        Trip luck = (y, lake, law, plan, n, load, from, to) -> y.luck(lake, law, plan, n, load, from, to);
        asWay("luck", luck, -1);
        e.beyond("no WAY", street("size 2 2;", "").luck(0, 0, 0, 0, 41, 0, 3), -1);

        e.section("Promise 16");
        e.tells("MOST.");
        e.at("MOST", x.most(0, 0, 0, 0, 0, 5), 40);
        e.says("NONE: for none");
        e.at("1", street("all 4;", "").most(0, 0, 0, 0, 0, 5), 1);
        e.beyond("3 inches bear 0", street("all 3;", "").most(0, 0, 0, 0, 0, 5), -1);
        e.beyond("a LOAD takes all", street("size 2 2;shop 1 40 0 1;ice 0 14;ice 3 14;", "share 5;").most(0, 0, 0, 0, 1, 3), -1);
        e.beyond("LANES", street("size 2 2;", "lane 1 0;lane 2 0;").most(0, 0, 0, 0, 0, 3), -1);
        e.says("or as way().");
        Trip most = (y, lake, law, plan, n, load, from, to) -> y.most(lake, law, plan, n, from, to);
        states("most", most, -1);
        trips("most", most, -1);
        bothAreOne("most", most, -1);

        e.section("Promise 17");
        e.tells("FROM (bits, not itself).");
        for (int c = 0; c < 6; c++) {
            e.at("from " + c, x.from(0, 0, 0, 0, 1, c), 0b111111 & ~(1L << c));
        }
        e.says("NONE: as ice()");
        Trip from = (y, lake, law, plan, n, load, cell, to) -> y.from(lake, law, plan, n, load, cell);
        states("from", from, -1);
        e.at("from 5", plain().from(0, 0, 0, 0, 1, 5), 0b011111);
        for (int c : WRONG_CELLS) {
            e.beyond("from " + c, plain().from(0, 0, 0, 0, 1, c), -1);
        }
        e.says("or another load than 1 .. 999.");
        loads("from", from, -1);
        e.at("a load that is too heavy", plain().from(0, 0, 0, 0, 999, 0), 0);
    }

    private void branchesAndOld() {
        e.section("Promise 24");
        e.says("BRANCHES (bits) of a load, 1 .. 999, on a DAY.");
        Trip branches = (y, lake, law, plan, n, load, from, to) -> y.branches(lake, law, plan, n, load, from, to, 0);
        IceStreet x = Check.street("size 3 2;all 20;frost -1;snow 1 3;", "", "day;day;");
        e.at("now", x.branches(0, 0, 0, 0, 36, 0, 2, 0), UPPER_ROW);
        e.at("DAYS from a STATE on", x.branches(0, 0, 0, 1, 32, 0, 2, 1), UPPER_ROW);
        e.beyond("one DAY more", x.branches(0, 0, 0, 1, 32, 0, 2, 2), -1);
        loads("branches", branches, -1);
        e.says("NONE: no WAY then");
        e.at("on the first DAY", x.branches(0, 0, 0, 0, 36, 0, 2, 1), UPPER_ROW);
        e.beyond("on the second", x.branches(0, 0, 0, 0, 36, 0, 2, 2), -1);
        e.says("or as way()");
        asWay("branches", branches, -1);
        e.says("or another DAY.");
        IceStreet y = plain();
        e.at("DAY 0", y.branches(0, 0, 0, 0, 1, 0, 2, 0), UPPER_ROW);
        e.at("DAY 30", y.branches(0, 0, 0, 0, 1, 0, 2, 30), UPPER_ROW);
        for (int day : new int[] {-1, 31, 60, Integer.MIN_VALUE, Integer.MAX_VALUE}) {
            e.beyond("DAY " + day, y.branches(0, 0, 0, 0, 1, 0, 2, day), -1);
        }

        e.section("Promise 25");
        e.tells("OLD of CELLS (bits).");
        e.at("on DAY 0", y.old(0, 0, 0, 0, 1, 0, 2, UPPER_ROW), 0);
        e.at("of 6 by 6", street("size 6 6;", "").old(0, 0, 0, 0, 1, 35, 23, 1L << 35 | 1L << 29 | 1L << 23), 0);
        e.says("NONE: on none");
        e.at("on the first DAY yet", x.old(0, 0, 0, 0, 36, 0, 2, UPPER_ROW), 0);
        e.beyond("no WAY on any", street("size 2 2;all 1;", "").old(0, 0, 0, 0, 1, 0, 1, 0b11), -1);
        for (long cells : new long[] {0, -1, UPPER_ROW | 1L << 36, UPPER_ROW | 1L << 63, Long.MIN_VALUE, Long.MAX_VALUE}) {
            e.beyond("CELLS " + cells, y.old(0, 0, 0, 0, 1, 0, 2, cells), -1);
            e.beyond("CELLS " + cells + " where there is no WAY", street("size 2 2;all 1;", "").old(0, 0, 0, 0, 1, 0, 1, cells),
                -1);
        }
        e.says("or as way().");
        Trip old = (z, lake, law, plan, n, load, from, to) -> z.old(lake, law, plan, n, load, from, to,
            z.branches(0, 0, -1, 0, 1, from, to, 0));
        asWay("old", old, -1);
    }

    private void thawAndSawn() {
        e.section("Promise 26");
        e.tells("THAW.");
        IceStreet x = Check.street("size 3 2;all 20;frost -1;", "", "day;sweep 6;");
        e.at("THAW", x.thaw(0, 0, 0, 0, 36, 0, 2), 2);
        e.at("THAW from a STATE on", x.thaw(0, 0, 0, 1, 36, 0, 2), 1);
        e.says("NONE: there is a WAY for all these DAYS");
        e.at("just not", street("bear 1;all 60;frost -1;", "").thaw(0, 0, 0, 0, 1, 0, 2), 60);
        e.beyond("for all", street("bear 1;all 61;frost -1;", "").thaw(0, 0, 0, 0, 1, 0, 2), -1);
        e.beyond("for ever", street("", "").thaw(0, 0, 0, 0, 1, 0, 2), -1);
        // In these streets no load may go behind some DAYS.
        Trip thaw = (y, lake, law, plan, n, load, from, to) -> {
            if (y.cell(0, 0, 0) == 20) {
                Check.tell(y, 0, 0, "size 3 2;frost -20;");
            } else {
                Check.tell(y, 0, 0, "size 3 2;bear 1;all 32;frost -20;");
            }
            return y.thaw(lake, law, plan, n, load, from, to);
        };
        e.says("both are one");
        bothAreOne("thaw", thaw, -1);
        e.says("no such STATE");
        states("thaw", thaw, -1);
        e.says("or none such (of any).");
        trips("thaw", thaw, -1);
        loads("thaw", thaw, -1);

        e.section("Promise 28");
        e.tells("SAWN.");
        e.at("SAWN", x.sawn(0, 0, 0, 0, 1, 0, 2), 2);
        e.says("NONE: by none (they lie side by side, and may go)");
        e.beyond("side by side", x.sawn(0, 0, 0, 0, 40, 0, 1), -1);
        e.beyond("one above the other", x.sawn(0, 0, 0, 0, 40, 0, 3), -1);
        e.at("side by side, but too heavy", x.sawn(0, 0, 0, 0, 41, 0, 1), 0);
        e.at("side by side, but a LANE", street("size 3 2;", "lane 1 0;").sawn(0, 0, 0, 0, 1, 0, 1), 1);
        e.at("apart", x.sawn(0, 0, 0, 0, 40, 0, 4), 2);
        Trip sawn = (y, lake, law, plan, n, load, from, to) -> y.sawn(lake, law, plan, n, load, from, to);
        e.says("both are one");
        bothAreOne("sawn", sawn, -1);
        e.says("no such STATE");
        states("sawn", sawn, -1);
        e.says("or none such (of any).");
        trips("sawn", sawn, -1);
        loads("sawn", sawn, -1);
        e.says("0: there is no WAY.");
        e.at("a WAY", x.sawn(0, 0, 0, 0, 40, 0, 2), 2);
        e.beyond("no WAY", x.sawn(0, 0, 0, 0, 41, 0, 2), 0);
        e.beyond("no WAY for 999", x.sawn(0, 0, 0, 0, 999, 0, 2), 0);
    }

    private void meetings() {
        e.section("Promise 29");
        IceStreet x = Check.street("size 6 2;bear 1;all 32;ice 4 3;", "", "day;sweep 12;");
        e.says("MEET, loads as 1000 times the second one and the first one");
        // 4 bears 9 alone: the first load goes there, or the second one.
        e.at("the first load is 9", x.meet(0, 0, 0, 0, 999009, 401, 103, 0, false), 1);
        e.beyond("the first load is 10", x.meet(0, 0, 0, 0, 999010, 401, 103, 0, false), -1);
        e.at("the second load is 9", x.meet(0, 0, 0, 0, 9999, 301, 402, 0, false), 2);
        e.beyond("the second load is 10", x.meet(0, 0, 0, 0, 10999, 301, 402, 0, false), -1);
        e.at("both are 1", x.meet(0, 0, 0, 0, 1001, 100, 1, 0, false), -1);
        e.at("both are 999", x.meet(0, 0, 0, 0, 999999, 200, 2, 0, false), 1);
        for (int loads : new int[] {0, 1, 999, 1000, 999000, 1000000, 1000001, 1001000, 1000999, -1001, -999001,
            Integer.MIN_VALUE, Integer.MAX_VALUE}) {
            e.beyond("loads " + loads, x.meet(0, 0, 0, 0, loads, 200, 2, 0, false), -1);
            e.beyond("PAUSE of loads " + loads, x.meet(0, 0, 0, 0, loads, 200, 2, 0, true), -1);
        }

        e.says("ways as 100 times the last CELL and the first one");
        e.at("0 to 11 and 11 to 0", x.meet(0, 0, 0, 0, 1001, 1100, 11, 6, false), 6);
        e.at("11 to 0 and 0 to 11", x.meet(0, 0, 0, 0, 1001, 11, 1100, 6, false), 6);
        e.at("2 to 3, both", x.meet(0, 0, 0, 0, 1001, 302, 302, 0, false), 0);
        e.at("3 to 2, both", x.meet(0, 0, 0, 0, 1001, 203, 203, 0, false), 0);
        IceStreet largest = street("size 6 6;", "");
        e.at("34 to 35", largest.meet(0, 0, 0, 0, 1001, 3534, 3534, 0, false), 0);
        e.beyond("0 to 36", largest.meet(0, 0, 0, 0, 1001, 3600, 3534, 0, false), -1);
        e.beyond("0 to 36, the second", largest.meet(0, 0, 0, 0, 1001, 3534, 3600, 0, false), -1);
        e.beyond("36 to 0", largest.meet(0, 0, 0, 0, 1001, 36, 3534, 0, false), -1);
        e.beyond("36 to 0, the second", largest.meet(0, 0, 0, 0, 1001, 3534, 36, 0, false), -1);
        for (int way : new int[] {0, 101, 1111, 1200, 12, 1299, 9900, 99, -1, -200, -2, 200 + 10000, 3600, 6400,
            Integer.MIN_VALUE, Integer.MAX_VALUE}) {
            e.beyond("way " + way, x.meet(0, 0, 0, 0, 1001, way, 2, 0, false), -1);
            e.beyond("other " + way, x.meet(0, 0, 0, 0, 1001, 2, way, 0, false), -1);
            e.beyond("PAUSE, way " + way, x.meet(0, 0, 0, 0, 1001, way, 2, 0, true), -1);
            e.beyond("PAUSE, other " + way, x.meet(0, 0, 0, 0, 1001, 2, way, 0, true), -1);
        }

        e.says("later 0 .. 40");
        e.at("later 0", x.meet(0, 0, 0, 0, 1001, 200, 2, 0, false), 1);
        // No WAY lasts 40 minutes, so that none is met that begins so late.
        e.at("later 40", x.meet(0, 0, 0, 0, 1001, 200, 2, 40, false), -1);
        e.beyond("later -1", x.meet(0, 0, 0, 0, 1001, 200, 2, -1, false), -1);
        e.beyond("later -1, the first one being one minute later", x.meet(0, 0, 0, 0, 1001, 300, 3, -1, false), -1);
        e.beyond("later 41", x.meet(0, 0, 0, 0, 1001, 200, 2, 41, false), -1);
        e.beyond("later far off", x.meet(0, 0, 0, 0, 1001, 200, 2, Integer.MIN_VALUE, false), -1);
        e.beyond("later far off", x.meet(0, 0, 0, 0, 1001, 200, 2, Integer.MAX_VALUE, false), -1);

        e.says("or (pause) PAUSE (later does not matter).");
        for (int later : new int[] {0, 40, -1, 41, Integer.MIN_VALUE, Integer.MAX_VALUE}) {
            e.at("PAUSE, later " + later, x.meet(0, 0, 0, 0, 1001, 400, 4, later, true), 1);
        }
        e.beyond("without pause", x.meet(0, 0, 0, 0, 1001, 400, 4, 41, false), -1);
        noMeeting(x);
    }

    private void noMeeting(IceStreet x) {
        e.says("NONE: they do not");
        e.at("they do", x.meet(0, 0, 0, 0, 1001, 200, 2, 0, false), 1);
        e.beyond("they do not", x.meet(0, 0, 0, 0, 1001, 200, 2, 1, false), -1);

        e.says("or (PAUSE) by none");
        // No WAY has 41 CELLS, so that one beginning 40 minutes later always meets none.
        IceStreet snake = street(WINDING, "");
        e.at("PAUSE of a long WAY, head on", snake.meet(0, 0, 0, 0, 40040, 3500, 35, 0, true), 21);
        e.beyond("they do not then", snake.meet(0, 0, 0, 0, 40040, 3500, 35, 21, false), -1);
        e.at("they do a minute before", snake.meet(0, 0, 0, 0, 40040, 3500, 35, 20, false), 20);

        e.says("one has no WAY");
        IceStreet y = street("size 2 2;ice 1 1;ice 2 3;bear 1;", "");
        e.at("both have", y.meet(0, 0, 0, 0, 9009, 300, 300, 0, false), 0);
        e.beyond("the first has none", y.meet(0, 0, 0, 0, 9010, 300, 300, 0, false), -1);
        e.beyond("the second has none", y.meet(0, 0, 0, 0, 10009, 300, 300, 0, false), -1);
        e.beyond("the first has none to PAUSE", y.meet(0, 0, 0, 0, 9010, 300, 300, 0, true), -1);
        e.beyond("the second has none to PAUSE", y.meet(0, 0, 0, 0, 10009, 300, 300, 0, true), -1);

        e.says("no such STATE");
        e.statesUpTo(1, "MEET", (lake, law, plan, n) -> x.meet(lake, law, plan, n, 1001, 200, 2, 0, false), -1);
        e.statesUpTo(1, "PAUSE", (lake, law, plan, n) -> x.meet(lake, law, plan, n, 1001, 200, 2, 0, true), -1);

        e.says("or other numbers.");
        e.at("just those", x.meet(0, 0, 0, 0, 999999, 200, 200, 0, false), 0);
        e.beyond("a load of 1000", x.meet(0, 0, 0, 0, 1000001, 200, 200, 0, false), -1);
        e.beyond("a load of 0", x.meet(0, 0, 0, 0, 1000, 200, 200, 0, false), -1);
        e.beyond("CELL 12", x.meet(0, 0, 0, 0, 1001, 1200, 200, 0, false), -1);
        e.beyond("one CELL", x.meet(0, 0, 0, 0, 1001, 202, 200, 0, false), -1);
        e.beyond("later 41", x.meet(0, 0, 0, 0, 1001, 200, 200, 41, false), -1);
    }

    private void lacking() {
        e.section("Promise 34");
        e.tells("STRUCK (sort 0), THICKER (1), OPENS (2).");
        IceStreet x = Check.street("size 2 2;bear 1;all 4;ice 2 0;frost 2;", "lane 1 0;", "day;sweep 4;");
        e.at("STRUCK", x.lacks(0, 0, 0, 0, 1, 0, 3, 0), 1);
        e.at("THICKER", x.lacks(0, 0, 0, 0, 9, 0, 3, 1), 3);
        e.at("OPENS", x.lacks(0, 0, 0, 0, 9, 0, 3, 2), 2);
        e.at("OPENS from a STATE on", x.lacks(0, 0, 0, 1, 9, 0, 3, 2), 1);

        e.says("NONE: by none");
        e.at("16 by STRUCK", x.lacks(0, 0, 0, 0, 16, 0, 3, 0), 1);
        e.beyond("17 by STRUCK", x.lacks(0, 0, 0, 0, 17, 0, 3, 0), -1);
        IceStreet y = Check.street("size 2 2;bear 99;all 0;frost 0;", "", "");
        e.at("99 by THICKER", y.lacks(0, 0, 0, 0, 99, 0, 3, 1), 99);
        e.beyond("100 by THICKER", y.lacks(0, 0, 0, 0, 100, 0, 3, 1), -1);
        e.beyond("by OPENS", y.lacks(0, 0, 0, 0, 1, 0, 3, 2), -1);

        e.says("as way()");
        for (int sort = 0; sort < 3; sort++) {
            int s = sort;
            asWay("lacks " + s, (z, lake, law, plan, n, load, from, to) -> z.lacks(lake, law, plan, n, load, from, to, s), -1);
        }

        e.says("or another sort.");
        e.at("sort 2", plain().lacks(0, 0, 0, 0, 1, 0, 2, 2), 0);
        for (int sort : new int[] {3, -1, Integer.MIN_VALUE, Integer.MAX_VALUE}) {
            e.beyond("sort " + sort, plain().lacks(0, 0, 0, 0, 1, 0, 2, sort), -1);
        }

        e.section("Promise 35");
        e.tells("NEEDS (bits).");
        e.at("NEEDS", x.needs(0, 0, 0, 1, 1, 2, 1), 0b1000);
        e.says("NONE: there is no WAY");
        e.at("40", plain().needs(0, 0, 0, 0, 40, 0, 2), 0);
        e.beyond("41", plain().needs(0, 0, 0, 0, 41, 0, 2), -1);
        e.beyond("41, side by side", plain().needs(0, 0, 0, 0, 41, 0, 1), -1);
        e.says("or as way().");
        asWay("needs", (z, lake, law, plan, n, load, from, to) -> z.needs(lake, law, plan, n, load, from, to), -1);
    }
}
