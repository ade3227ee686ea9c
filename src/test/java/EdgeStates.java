/** Terms 2 and promises 11 to 13, 18, 36, sentence by sentence: STATES, ACTS, LOADS, FALLS, PARTS, SPREAD. */
final class EdgeStates {
    private final Edge e;

    EdgeStates(Edge edge) {
        e = edge;
    }

    void all() {
        states();
        falls();
        days();
        ways();
        moves();
        otherActs();
        stopsAndBrokenLaws();
        stop();
        state();
        ice();
        parts();
        spread();
    }

    private static int stopOf(String lake, String law, String plan) {
        return Check.street(lake, law, plan).stop(0, 0, 0);
    }

    /** A PLAN's only ACT can be. */
    private void can(String what, String lake, String law, String act) {
        e.at(what + ": " + act, stopOf(lake, law, act), 1);
    }

    private void cannot(String what, String lake, String law, String act) {
        e.beyond(what + ": " + act, stopOf(lake, law, act), 0);
    }

    private void states() {
        e.section("Terms 2");
        e.says("NEAR are CELLS side by side without a CRACK between.");
        // 0 1|2      a SHOP of 20 at 1, and half of it in NEAR CELLS.
        // 3 4 5
        IceStreet x = Check.street("size 3 2;all 30;crack 2 1;shop 1 20 0 1;", "", "");
        e.at("LOAD beside", x.ice(0, 0, 0, 0, 0, 3), 10);
        e.at("LOAD below", x.ice(0, 0, 0, 0, 4, 3), 10);
        e.beyond("LOAD beyond a CRACK", x.ice(0, 0, 0, 0, 2, 3), 0);
        e.beyond("LOAD of one across", x.ice(0, 0, 0, 0, 3, 3), 0);
        e.beyond("LOAD of one across", x.ice(0, 0, 0, 0, 5, 3), 0);
        x = Check.street("size 3 2;all 30;shop 2 20 0 1;", "", "");
        e.beyond("LOAD at the next row's beginning", x.ice(0, 0, 0, 0, 3, 3), 0);

        e.says("A STATE of a LAKE by a LAW is what is behind the first n ACTS of a PLAN");
        x = Check.street("all 30;frost 1 2;", "", "day;day;sweep 3;day;");
        int[] thick = {30, 31, 33, 33, 34};
        for (int n = 0; n < 5; n++) {
            e.at("THICK behind " + n, x.ice(0, 0, 0, n, 0, 0), thick[n]);
        }
        e.beyond("behind 5", x.ice(0, 0, 0, 5, 0, 0), -1);
        e.beyond("behind -1", x.ice(0, 0, 0, -1, 0, 0), -1);

        e.says("(PLAN NONE: behind none;");
        e.at("THICK", x.ice(0, 0, -1, 0, 0, 0), 30);
        e.at("DAY", x.state(0, 0, -1, 0, 0), 0);
        e.beyond("behind one ACT of none", x.state(0, 0, -1, 1, 0), -100);
        e.beyond("PLAN -2", x.state(0, 0, -2, 0, 0), -100);

        e.says("n up to STOP)");
        x = Check.street("all 30;frost 1;", "", "day;day;sweep 16;day;");
        e.at("STOP", x.stop(0, 0, 0), 2);
        e.at("behind 2", x.state(0, 0, 0, 2, 0), 2);
        e.beyond("behind 3", x.state(0, 0, 0, 3, 0), -100);
        e.beyond("behind 4", x.state(0, 0, 0, 4, 0), -100);
        x = Check.street("", "", "sweep 16;");
        e.at("behind none", x.state(0, 0, 0, 0, 0), 0);
        e.beyond("behind the first, that can't be", x.state(0, 0, 0, 1, 0), -100);

        e.says(": how THICK each CELL is, its SNOW, where each SHOP is (off: NONE, fallen: -2), "
            + "the DAY (0 at first), PAID.");
        x = Check.street("size 2 2;all 20;snow 3 4;frost -2 5;shore 0;shop 0 10 0 1;shop 1 40 0 1;", "rent 10;share 0;",
            "off 0;day;sweep 3;day;");
        e.at("THICK", x.ice(0, 0, 0, 2, 3, 0), 18);
        e.at("SNOW", x.ice(0, 0, 0, 2, 3, 1), 4);
        e.at("SHOP 0 stands", x.state(0, 0, 0, 0, 10), 0);
        e.beyond("SHOP 0 is off", x.state(0, 0, 0, 1, 10), -1);
        e.at("SHOP 1 stands", x.state(0, 0, 0, 1, 11), 1);
        e.beyond("SHOP 1 fell", x.state(0, 0, 0, 2, 11), -2);
        e.at("DAY at first", x.state(0, 0, 0, 1, 0), 0);
        e.beyond("DAY then", x.state(0, 0, 0, 2, 0), 1);
        e.at("PAID at first", x.state(0, 0, 0, 1, 1), 0);
        e.beyond("PAID then", x.state(0, 0, 0, 2, 1), 18);
        e.beyond("SNOW swept", x.ice(0, 0, 0, 3, 3, 1), 0);
        e.beyond("THICK then", x.ice(0, 0, 0, 4, 3, 0), 23);

        e.says("BEARS of a CELL: THICK * THICK / BEAR, cut.");
        int[][] bears = {{10, 20, 40}, {10, 19, 36}, {10, 3, 0}, {10, 4, 1}, {1, 99, 9801}, {99, 99, 99}, {99, 9, 0},
            {99, 10, 1}, {1, 0, 0}, {1, 1, 1}, {3, 5, 8}};
        for (int[] b : bears) {
            x = Check.street("bear " + b[0] + ";all " + b[1] + ";", "", "");
            e.at(b[1] + " inches by " + b[0], x.ice(0, 0, 0, 0, 15, 2), b[2]);
        }
        e.beyond("a CELL that is not there", x.ice(0, 0, 0, 0, 16, 2), -1);

        e.says("LOAD of a CELL: the WEIGHT of the SHOP there, and of each in a NEAR CELL WEIGHT * SHARE / 10, cut.");
        String lake = "size 3 2;all 60;shop 0 7 0 1;shop 2 9 0 1;shop 4 99 0 1;";
        int[][] shares = {{0, 7, 0, 9, 0, 99, 0}, {1, 7, 9, 9, 9, 99, 9}, {3, 7, 33, 9, 31, 99, 31},
            {5, 7, 56, 9, 52, 99, 53}, {10, 7, 115, 9, 106, 99, 108}};
        for (int[] s : shares) {
            x = Check.street(lake, "share " + s[0] + ";", "");
            for (int c = 0; c < 6; c++) {
                e.at("LOAD of " + c + " by SHARE " + s[0], x.ice(0, 0, 0, 0, c, 3), s[c + 1]);
            }
        }
        x = Check.street("size 3 2;all 60;shop 0 7 0 1;shop 1 9 0 1;shop 4 99 0 1;", "share 5;", "");
        e.at("LOAD of a CELL with a SHOP and two beside it", x.ice(0, 0, 0, 0, 1, 3), 9 + 3 + 49);
        e.beyond("LOAD of CELLS with none", Check.street("", "", "").ice(0, 0, 0, 0, 5, 3), 0);
    }

    private void falls() {
        e.says("A SHOP FALLS, if the LOAD of its CELL is above what it BEARS:");
        e.at("40 on 20 inches", Check.street("shop 5 40 0 1;", "", "").state(0, 0, 0, 0, 10), 5);
        e.beyond("41 on 20 inches", Check.street("shop 5 41 0 1;", "", "").state(0, 0, 0, 0, 10), -2);
        e.at("38 and the half of 5", Check.street("shop 5 38 0 1;shop 6 5 0 1;", "", "").state(0, 0, 0, 0, 10), 5);
        e.beyond("38 and the half of 6", Check.street("shop 5 38 0 1;shop 6 6 0 1;", "", "").state(0, 0, 0, 0, 10), -2);
        e.beyond("1 on no ice", Check.street("all 0;shop 5 1 0 1;", "", "").state(0, 0, 0, 0, 10), -2);

        e.says("at first, and behind each ACT");
        e.at("at first", Check.street("shop 5 41 0 1;", "", "").state(0, 0, -1, 0, 10), -2);
        IceStreet x = Check.street("size 3 2;ice 5 10;shop 0 30 0 1;shop 5 8 0 7;", "", "move 0 1;move 0 2;");
        e.at("behind a move afar", x.state(0, 0, 0, 1, 11), 5);
        e.beyond("behind a move beside it", x.state(0, 0, 0, 2, 11), -2);
        x = Check.street("frost 0 -1;shop 5 40 0 1;", "", "day;day;");
        e.at("behind a day", x.state(0, 0, 0, 1, 10), 5);
        e.beyond("behind a day that thaws", x.state(0, 0, 0, 2, 10), -2);

        e.says("so long as some do: the least of these;");
        // By SHARE 10 both CELLS have a LOAD of 41: SHOP 0 falls alone.
        x = Check.street("shop 5 21 0 1;shop 6 20 0 2;", "share 10;", "");
        e.at("the least", x.state(0, 0, 0, 0, 10), -2);
        e.beyond("the other one stands then", x.state(0, 0, 0, 0, 11), 6);
        // 1 and 2 are too heavy together, 0 is not: 1 is the least of these.
        x = Check.street("shop 0 1 0 1;shop 5 21 0 2;shop 6 20 0 4;", "share 10;", "");
        e.at("not one that bears", x.state(0, 0, 0, 0, 10), 0);
        e.at("the least of these", x.state(0, 0, 0, 0, 11), -2);
        e.beyond("the other one stands then", x.state(0, 0, 0, 0, 12), 6);
        // All fall, though SHOP 2 is the one that is least able.
        x = Check.street("shop 5 41 0 1;shop 6 41 0 2;shop 7 99 0 4;", "share 0;", "");
        e.at("all of them", x.state(0, 0, 0, 0, 2), 7);
        // SHOP 1 falls before 2, and 0, which bears then, stays.
        x = Check.street("ice 4 9;ice 6 9;shop 5 36 0 1;shop 4 9 0 2;shop 6 9 0 4;", "", "");
        e.at("0 falls: 36 and twice 4 are above 40", x.state(0, 0, 0, 0, 10), -2);
        e.beyond("those beside it: 9 above 8", x.state(0, 0, 0, 0, 2), 7);

        e.says("its CELL is 0 THICK then.");
        x = Check.street("shop 5 41 0 1;", "", "day;");
        e.at("THICK", x.ice(0, 0, 0, 0, 5, 0), 0);
        e.at("BEARS", x.ice(0, 0, 0, 0, 5, 2), 0);
        e.at("LOAD", x.ice(0, 0, 0, 0, 5, 3), 0);
        e.beyond("beside it", x.ice(0, 0, 0, 0, 6, 0), 20);
        e.beyond("where none fell", Check.street("shop 5 40 0 1;", "", "").ice(0, 0, 0, 0, 5, 0), 20);
    }

    private void days() {
        e.tells("day: F is that number of FROSTS, the DAY-th, again and again:");
        IceStreet x = Check.street("all 30;frost 1 2 -4;", "", "day;sweep 0;day;day;sweep 1;day;day;");
        int[] thick = {30, 31, 31, 33, 29, 29, 30, 32};
        for (int n = 0; n < thick.length; n++) {
            e.at("THICK behind " + n, x.ice(0, 0, 0, n, 0, 0), thick[n]);
        }
        e.at("at first F is 0", Check.street("", "", "day;day;").ice(0, 0, 0, 2, 0, 0), 20);

        e.says("of each CELL F above 0: F less SNOW more (0 at least), else F more;");
        int[][] frosts = {{1, 0, 1}, {3, 2, 1}, {3, 3, 0}, {3, 4, 0}, {20, 9, 11}, {0, 9, 0}, {-1, 9, -1}, {-20, 0, -20}};
        for (int[] f : frosts) {
            x = Check.street("all 30;frost " + f[0] + ";snow 7 " + f[1] + ";", "", "day;");
            String what = "F " + f[0] + ", SNOW " + f[1];
            if (f[0] > f[1]) {
                e.at(what, x.ice(0, 0, 0, 1, 7, 0), 30 + f[2]);
            } else {
                e.beyond(what, x.ice(0, 0, 0, 1, 7, 0), 30 + f[2]);
            }
            e.at(what + ", a CELL without", x.ice(0, 0, 0, 1, 6, 0), 30 + f[0]);
            e.at(what + ", SNOW stays", x.ice(0, 0, 0, 1, 7, 1), f[1]);
        }

        e.says("HEAT less: the STOVE of the SHOP there, half of it, cut, of each in a NEAR CELL;");
        // 0 1 2
        // 3 4|5     STOVES of 3 at 0, of 5 at 2, of 9 at 4.
        x = Check.street("size 3 2;all 30;crack 4 5;shop 0 1 3 1;shop 2 1 5 1;shop 4 1 9 1;", "", "day;");
        int[] heat = {3, 1 + 2 + 4, 5, 1 + 4, 9, 2};
        for (int c = 0; c < 6; c++) {
            e.at("HEAT of " + c, x.ice(0, 0, 0, 1, c, 0), 30 - heat[c]);
        }
        x = Check.street("all 30;shop 5 1 1 1;shop 6 1 0 1;", "", "day;");
        e.at("a STOVE of 1", x.ice(0, 0, 0, 1, 5, 0), 29);
        e.beyond("the half of 1", x.ice(0, 0, 0, 1, 4, 0), 30);
        e.beyond("no STOVE", x.ice(0, 0, 0, 1, 6, 0), 30);
        x = Check.street("all 30;shop 5 1 9 1;shop 6 1 8 1;", "", "day;");
        e.at("its own and another one's", x.ice(0, 0, 0, 1, 5, 0), 30 - 9 - 4);
        x = Check.street("all 30;ice 5 1;shop 5 1 9 1;", "", "day;");
        e.beyond("one that fell warms nothing", x.ice(0, 0, 0, 1, 4, 0), 30);

        e.says("within 0 and 99 then;");
        int[][] within = {{98, 1, 99}, {99, 0, 99}, {99, 1, 99}, {90, 20, 99}, {1, -1, 0}, {0, -1, 0}, {5, -20, 0}, {0, 0, 0}};
        for (int[] w : within) {
            x = Check.street("all " + w[0] + ";frost " + w[1] + ";", "", "day;");
            int sum = w[0] + w[1];
            if (sum < 0 || sum > 99) {
                e.beyond(w[0] + " and " + w[1], x.ice(0, 0, 0, 1, 3, 0), w[2]);
            } else {
                e.at(w[0] + " and " + w[1], x.ice(0, 0, 0, 1, 3, 0), w[2]);
            }
        }
        // 'then': behind F and HEAT together.
        x = Check.street("all 97;frost 9;shop 5 1 3 1;shop 0 1 8 1;", "", "day;");
        e.beyond("97 and 9 less 3", x.ice(0, 0, 0, 1, 5, 0), 99);
        e.at("97 and 9 less 8", x.ice(0, 0, 0, 1, 0, 0), 98);
        x = Check.street("all 4;bear 1;frost 3;shop 5 1 6 1;", "", "day;");
        e.at("4 and 3 less 6", x.ice(0, 0, 0, 1, 5, 0), 1);
        x = Check.street("all 4;bear 1;frost -3;shop 5 1 2 1;", "", "day;");
        e.beyond("4 less 3 less 2", x.ice(0, 0, 0, 1, 5, 0), 0);

        e.says("the DAY is one later;");
        x = Check.street("", "", "day;sweep 0;day;");
        e.at("behind a day", x.state(0, 0, 0, 1, 0), 1);
        e.beyond("behind another ACT", x.state(0, 0, 0, 2, 0), 1);
        e.at("behind the next", x.state(0, 0, 0, 3, 0), 2);

        e.says("each SHOP that stands has PAID RENT * THICK / 10, cut, by its CELL as it is then.");
        x = Check.street("all 18;frost 1;shop 0 1 0 1;shop 5 1 0 1;", "", "day;day;");
        e.at("19 inches, each cut", x.state(0, 0, 0, 1, 1), 2);
        e.at("20 inches", x.state(0, 0, 0, 2, 1), 2 + 4);
        x = Check.street("all 80;frost 19;shop 0 1 0 1;shop 5 1 4 1;", "rent 99;", "day;");
        e.at("99 and 95 inches, RENT 99", x.state(0, 0, 0, 1, 1), 980 + 940);
        e.beyond("RENT 0", Check.street("shop 0 1 0 1;", "rent 0;", "day;").state(0, 0, 0, 1, 1), 0);
        e.beyond("9 inches, RENT 1", Check.street("all 9;shop 0 1 0 1;", "", "day;").state(0, 0, 0, 1, 1), 0);
        x = Check.street("shore 0;shop 0 1 0 1;shop 5 41 0 1;", "rent 10;", "off 0;day;");
        e.beyond("one off, one that fell before", x.state(0, 0, 0, 2, 1), 0);

        e.says("(One that FALLS behind it, too.)");
        x = Check.street("frost -1;shop 0 40 0 1;", "rent 10;", "day;day;");
        e.at("it fell", x.state(0, 0, 0, 1, 10), -2);
        e.at("it has PAID", x.state(0, 0, 0, 1, 1), 19);
        e.beyond("it pays no more", x.state(0, 0, 0, 2, 1), 19);
    }

    private void ways() {
        e.says("A WAY for a load, from one CELL to another one: CELLS side by side (CRACKS do not matter), "
            + "none twice, from the first to the last one;");
        IceStreet x = Check.street("size 3 2;crack 0 1;crack 1 2;crack 1 4;", "", "");
        int[] cells = {0, 1, 2};
        e.at("CELLS", x.way(0, 0, 0, 0, 1, 0, 2, 0, 0), 3);
        for (int i = 0; i < 3; i++) {
            e.at("CELL " + i, x.way(0, 0, 0, 0, 1, 0, 2, 0, 10 + i), cells[i]);
        }
        e.beyond("behind the last", x.way(0, 0, 0, 0, 1, 0, 2, 0, 13), -1);
        e.beyond("from a CELL to itself", x.way(0, 0, 0, 0, 1, 1, 1, 0, 0), -1);
        x = Check.street("size 2 3;ice 2 0;ice 3 0;", "", "");
        e.beyond("there is none across open water", x.way(0, 0, 0, 0, 1, 0, 4, 0, 0), -1);

        e.says("each but the first one has no SHOP");
        x = Check.street("size 3 2;ice 4 0;shop 1 1 0 1;", "", "");
        e.at("from a SHOP", x.way(0, 0, 0, 0, 1, 1, 2, 0, 0), 2);
        e.beyond("to a SHOP", x.way(0, 0, 0, 0, 1, 2, 1, 0, 0), -1);
        e.beyond("by a SHOP", x.way(0, 0, 0, 0, 1, 0, 2, 0, 0), -1);

        e.says("is LEAST THICK");
        e.at("20 inches", Check.street("", "least 20;", "").way(0, 0, 0, 0, 1, 0, 2, 0, 0), 3);
        e.beyond("21", Check.street("", "least 21;", "").way(0, 0, 0, 0, 1, 0, 2, 0, 0), -1);
        e.at("the first one need not", Check.street("ice 0 3;", "least 20;", "").way(0, 0, 0, 0, 1, 0, 2, 0, 0), 3);
        e.beyond("the last one must", Check.street("ice 2 19;", "least 20;", "").way(0, 0, 0, 0, 1, 0, 2, 0, 0), -1);
        e.at("round a thin one", Check.street("ice 1 19;", "least 20;", "").way(0, 0, 0, 0, 1, 0, 2, 0, 0), 5);

        e.says("and BEARS the load and its LOAD");
        x = Check.street("size 2 2;ice 0 1;shop 3 10 0 1;", "", "");
        e.at("35 and the half of 10", x.way(0, 0, 0, 0, 35, 0, 1, 0, 0), 2);
        e.beyond("36", x.way(0, 0, 0, 0, 36, 0, 1, 0, 0), -1);
        e.beyond("to the CELL that bears 0", x.way(0, 0, 0, 0, 1, 1, 0, 0, 0), -1);
        x = Check.street("size 2 2;", "", "");
        e.at("40", x.way(0, 0, 0, 0, 40, 0, 1, 0, 0), 2);
        e.beyond("41", x.way(0, 0, 0, 0, 41, 0, 1, 0, 0), -1);

        e.says("(a SHOP that moves weighs nothing else);");
        can("40 of 40", "shop 5 40 0 1;", "", "move 0 6;");
        cannot("40, and the half of 2 beside", "shop 5 40 0 1;shop 7 2 0 1;", "", "move 0 6;");
        can("40 to the SHORE", "shop 5 40 0 1;shore 6;", "", "off 0;");
        cannot("a load of 21 beside a SHOP of 40", "shop 5 40 0 1;", "", "go 21 5 6;");
        can("a load of 20 beside a SHOP of 40", "shop 5 40 0 1;", "", "go 20 5 6;");

        e.says("no step against a LANE (from its second CELL to its first one).");
        x = Check.street("size 3 2;ice 3 0;ice 4 0;", "lane 0 1;", "");
        e.at("along it", x.way(0, 0, 0, 0, 1, 0, 2, 0, 0), 3);
        e.beyond("against it", x.way(0, 0, 0, 0, 1, 2, 0, 0, 0), -1);
        e.beyond("against it, the first step", x.way(0, 0, 0, 0, 1, 1, 0, 0, 0), -1);
        e.at("by another CELL", x.way(0, 0, 0, 0, 1, 2, 1, 0, 0), 2);
        x = Check.street("size 3 2;", "lane 0 2;", "");
        e.at("a LANE of CELLS apart", x.way(0, 0, 0, 0, 1, 2, 0, 0, 0), 3);
        x = Check.street("size 3 2;", "lane 1 4;lane 4 1;", "");
        e.beyond("one each way: neither", x.way(0, 0, 0, 0, 1, 1, 4, 0, 0), 4);
        e.beyond("one each way: neither", x.way(0, 0, 0, 0, 1, 4, 1, 0, 0), 4);

        e.says("SHORT: of the fewest CELLS; of several the first by rows.");
        x = Check.street("size 3 3;", "", "");
        way(x, 0, 8, 0, 1, 2, 5, 8);
        way(x, 8, 0, 8, 5, 2, 1, 0);
        way(x, 2, 6, 2, 1, 0, 3, 6);
        x = Check.street("size 3 3;ice 2 0;", "", "");
        way(x, 0, 8, 0, 1, 4, 5, 8);
        x = Check.street("size 3 3;", "lane 1 0;lane 4 3;lane 8 7;", "");
        way(x, 0, 8, 0, 3, 6, 7, 4, 5, 8);
        x = Check.street("size 3 3;", "lane 1 0;", "");
        way(x, 0, 8, 0, 3, 4, 5, 8);
        way(x, 8, 0, 8, 5, 2, 1, 0);
        x = Check.street("size 3 3;ice 1 0;", "", "");
        e.at("the fewest", x.way(0, 0, 0, 0, 1, 0, 2, 0, 0), 5);
        e.beyond("behind its last", x.way(0, 0, 0, 0, 1, 0, 2, 0, 15), -1);
    }

    private void way(IceStreet x, int from, int to, int... cells) {
        e.at("CELLS from " + from + " to " + to, x.way(0, 0, 0, 0, 1, from, to, 0, 0), cells.length);
        for (int i = 0; i < cells.length; i++) {
            e.at("CELL " + i + " from " + from + " to " + to, x.way(0, 0, 0, 0, 1, from, to, 0, 10 + i), cells[i]);
        }
    }

    private void moves() {
        e.says("move: a SHOP that stands goes to a CELL, if there is a WAY for its WEIGHT");
        IceStreet x = Check.street("shop 5 20 0 1;", "", "move 0 0;");
        e.at("where it is", x.state(0, 0, 0, 1, 10), 0);
        e.at("LOAD there", x.ice(0, 0, 0, 1, 0, 3), 20);
        e.at("LOAD where it was", x.ice(0, 0, 0, 1, 5, 3), 0);
        can("36 bears 36", "size 2 2;bear 1;all 7;ice 1 6;shop 0 36 0 1;", "", "move 0 1;");
        cannot("36 does not bear 37", "size 2 2;bear 1;all 7;ice 1 6;shop 0 37 0 1;", "", "move 0 1;");
        cannot("where it is", "shop 5 20 0 1;", "", "move 0 5;");
        cannot("where another one is", "shop 5 20 0 1;shop 6 1 0 1;", "", "move 0 6;");
        cannot("against a LANE", "size 2 2;ice 2 0;shop 0 9 0 1;", "lane 1 0;", "move 0 1;");
        cannot("one that fell", "shop 5 41 0 1;", "", "move 0 6;");
        e.beyond("one that is off", stopOf("shop 5 20 0 1;shore 5;", "", "off 0;move 0 6;"), 1);

        e.says("it is not BARRED");
        can("beside a BARRED one", "shop 5 20 0 1;", "bar 7;", "move 0 6;");
        can("over BARRED ones", "shop 5 20 0 1;", "bar 4 1 6 9;", "move 0 0;");
        can("from a BARRED one", "shop 5 20 0 1;", "bar 5;", "move 0 6;");
        cannot("to a BARRED one", "shop 5 20 0 1;", "bar 6;", "move 0 6;");

        e.says("and, if it has a STOVE, each other standing one with a STOVE is APART steps from there at least "
            + "(columns and rows together).");
        String lake = "shop 5 9 1 1;shop 15 9 1 1;";
        can("3 steps", lake, "apart 3;", "move 0 9;");
        cannot("3 steps, not 4", lake, "apart 4;", "move 0 9;");
        can("4 steps by columns and rows", lake, "apart 4;", "move 0 8;");
        cannot("4 steps, not 5", lake, "apart 5;", "move 0 8;");
        can("6 steps", lake, "apart 6;", "move 0 0;");
        cannot("6 steps, not 7", lake, "apart 7;", "move 0 0;");
        can("no STOVE of its own", "shop 5 9 0 1;shop 15 9 1 1;", "apart 9;", "move 0 9;");
        can("no STOVE of the other one", "shop 5 9 1 1;shop 15 9 0 1;", "apart 9;", "move 0 9;");
        can("the other one fell", "ice 15 1;shop 5 9 1 1;shop 15 9 1 1;", "apart 9;", "move 0 9;");
        e.at("the other one is off", stopOf(lake + "shore 15;", "apart 9;", "off 1;move 0 9;"), 2);
        cannot("one of several", lake + "shop 0 9 1 1;", "apart 3;", "move 0 4;");
    }

    private void otherActs() {
        e.says("off: it goes off, if its CELL is of the SHORE, or there is a WAY to one.");
        can("on the SHORE", "shop 5 9 0 1;shore 5;", "least 99;", "off 0;");
        can("a WAY to the SHORE", "shop 5 9 0 1;shore 0 15;ice 0 1;", "", "off 0;");
        can("though it is BARRED", "shop 5 9 0 1;shore 0;", "bar 0;", "off 0;");
        cannot("no SHORE", "shop 5 9 0 1;", "", "off 0;");
        cannot("no WAY", "shop 5 9 0 1;shore 0;ice 0 1;", "", "off 0;");
        cannot("a SHOP on the SHORE", "shop 5 9 0 1;shop 0 1 0 1;shore 0;", "", "off 0;");
        cannot("by LEAST", "shop 5 9 0 1;shore 0;", "least 21;", "off 0;");
        IceStreet x = Check.street("shop 5 9 0 7;shore 0;", "", "off 0;");
        e.at("it is off", x.state(0, 0, 0, 1, 10), -1);
        e.at("LOAD", x.ice(0, 0, 0, 1, 5, 3), 0);
        e.at("LOST", x.state(0, 0, 0, 1, 2), 0);

        e.says("go: if there is a WAY: the SNOW of all CELLS of SHORT is 0 then.");
        String snow = "size 3 2;snow 0 1;snow 1 2;snow 2 3;snow 3 4;snow 4 5;snow 5 6;";
        x = Check.street(snow, "", "go 40 0 5;go 41 0 5;");
        int[] left = {0, 0, 0, 4, 5, 0};
        for (int c = 0; c < 6; c++) {
            e.at("SNOW of " + c, x.ice(0, 0, 0, 1, c, 1), left[c]);
        }
        e.at("THICK", x.ice(0, 0, 0, 1, 0, 0), 20);
        e.beyond("STOP", x.stop(0, 0, 0), 1);
        x = Check.street(snow, "", "go 1 0 1;");
        e.at("a longer one was asked for before", x.way(0, 0, 0, 0, 1, 0, 5, 0, 12), 2);
        e.at("SNOW of 1", x.ice(0, 0, 0, 1, 1, 1), 0);
        e.beyond("SNOW behind the last CELL", x.ice(0, 0, 0, 1, 2, 1), 3);
        cannot("too heavy", snow, "", "go 41 0 5;");
        cannot("against LANES", snow, "lane 1 0;lane 3 0;", "go 1 0 5;");
        cannot("to a SHOP", snow + "shop 5 1 0 1;", "", "go 1 0 5;");
        can("from a SHOP", snow + "shop 0 1 0 1;", "", "go 1 0 5;");

        e.says("sweep: SNOW is 0 there.");
        x = Check.street(snow, "", "sweep 4;sweep 4;");
        e.at("there", x.ice(0, 0, 0, 1, 4, 1), 0);
        e.at("though there is none", x.stop(0, 0, 0), 2);
        e.beyond("beside it", x.ice(0, 0, 0, 1, 5, 1), 6);
        e.beyond("beside it", x.ice(0, 0, 0, 1, 3, 1), 4);
        can("under a SHOP", snow + "shop 4 1 0 1;", "bar 4;", "sweep 4;");

        e.says("An ACT can't be, if this is not so, or there is no such SHOP that stands, no such CELL.");
        String shops = "size 3 2;shore 0;shop 0 9 0 1;shop 1 9 0 1;";
        can("SHOP 1", shops, "", "move 1 5;");
        can("SHOP 0", shops, "", "off 0;");
        cannot("SHOP 2", shops, "", "move 2 5;");
        cannot("SHOP 2", shops, "", "off 2;");
        cannot("SHOP 5", shops, "", "off 5;");
        cannot("CELL 6", shops, "", "move 1 6;");
        cannot("CELL 35", shops, "", "move 1 35;");
        can("CELL 5", shops, "", "go 1 2 5;");
        cannot("CELL 6", shops, "", "go 1 2 6;");
        cannot("from CELL 6", shops, "", "go 1 6 2;");
        can("CELL 5", shops, "", "sweep 5;");
        cannot("CELL 6", shops, "", "sweep 6;");
        e.beyond("one that is off", stopOf(shops, "", "off 0;off 0;"), 1);
        e.beyond("one that fell", stopOf("shore 0;shop 0 41 0 1;", "", "off 0;"), 0);
        e.beyond("one that fell on a day", stopOf("frost -1;shore 0;shop 0 40 0 1;", "", "day;off 0;"), 1);
    }

    private void stopsAndBrokenLaws() {
        e.says("STOP: the first ACT that can't be, else how many there are.");
        e.at("none can't be", stopOf("", "", "day;day;sweep 15;"), 3);
        e.at("none at all", stopOf("", "", ""), 0);
        e.at("30", stopOf("", "", "day;".repeat(30)), 30);
        e.beyond("the first one", stopOf("", "", "sweep 16;day;"), 0);
        e.beyond("the last one", stopOf("", "", "day;".repeat(29) + "sweep 16;"), 29);
        e.beyond("the first of two", stopOf("", "", "day;sweep 16;off 0;"), 1);

        e.says("LOST: WORTH of all that FELL.");
        IceStreet x = Check.street("frost 0 -1;shore 0;shop 0 9 0 50;shop 5 41 0 7;shop 15 40 0 30;", "", "off 0;day;day;");
        e.at("one at first", x.state(0, 0, 0, 0, 2), 7);
        e.beyond("one off is not LOST", x.state(0, 0, 0, 1, 2), 7);
        e.beyond("one that stands", x.state(0, 0, 0, 2, 2), 7);
        e.at("both", x.state(0, 0, 0, 3, 2), 37);
        x = Check.street("all 0;shop 0 1 0 99;shop 1 1 0 99;shop 2 1 0 99;shop 3 1 0 99;shop 4 1 0 99;shop 5 1 0 99;",
            "", "");
        e.at("six", x.state(0, 0, 0, 0, 2), 594);

        e.says("BROKEN: standing SHOPS (bits) that are on a BARRED CELL");
        String lake = "ice 3 1;shop 0 9 0 1;shop 1 9 0 1;shop 3 9 0 1;shop 15 9 0 1;";
        e.at("BARRED 1 and 15", broken(lake, "bar 1 15;"), 0b1010);
        e.at("all that stand", broken(lake, "bar 0 1 3 15;"), 0b1011);
        e.beyond("beside them", broken(lake, "bar 2 4 14 11 35;"), 0);
        e.beyond("one that fell", broken(lake, "bar 3;"), 0);
        e.beyond("one that is off",
            Check.street(lake + "shore 1;", "bar 1;", "off 1;").state(0, 0, 0, 1, 3), 0);

        e.says("or have a STOVE nearer than APART to another one that has.");
        // 0 . . 3     STOVES at 0, 5 and 15, none at 1; one that fell at 3.
        // . 5 . .
        String stoves = "ice 3 1;shop 0 9 1 1;shop 1 9 0 1;shop 3 9 9 1;shop 5 9 9 1;shop 15 9 2 1;";
        e.at("2 steps, APART 2", broken(stoves, "apart 2;"), 0);
        e.beyond("2 steps, APART 3", broken(stoves, "apart 3;"), 0b01001);
        e.at("4 steps, APART 4", broken(stoves, "apart 4;"), 0b01001);
        e.beyond("4 steps, APART 5", broken(stoves, "apart 5;"), 0b11001);
        e.at("APART 0", broken(stoves, ""), 0);
        e.at("both laws", broken(stoves, "apart 3;bar 1;"), 0b01011);
    }

    private static int broken(String lake, String law) {
        return Check.street(lake, law, "").state(0, 0, 0, 0, 3);
    }

    private void stop() {
        e.section("Promise 11");
        e.says("STOP.");
        IceStreet x = Check.street("", "", "day;sweep 16;");
        e.at("STOP", x.stop(0, 0, 0), 1);
        Check.tell(x, 0, -1, "size 6 6;");
        e.beyond("of a larger LAKE", x.stop(1, 0, 0), 2);
        Check.tell(x, 2, -1, "go 1 0 1;");
        Check.tell(x, 1, -1, "least 99;");
        e.at("of another PLAN", x.stop(0, 0, 1), 1);
        e.beyond("by another LAW", x.stop(0, 1, 1), 0);

        e.says("NONE: there is none such (of any).");
        e.at("the last ones", x.stop(1, 1, 1), 0);
        e.beyond("LAKE 2", x.stop(2, 0, 0), -1);
        e.beyond("LAKE -1", x.stop(-1, 0, 0), -1);
        e.beyond("LAW 2", x.stop(0, 2, 0), -1);
        e.beyond("LAW -1", x.stop(0, -1, 0), -1);
        e.beyond("PLAN 2", x.stop(0, 0, 2), -1);
        e.beyond("PLAN NONE", x.stop(0, 0, -1), -1);
        e.beyond("PLAN -2", x.stop(0, 0, -2), -1);
        e.beyond("of a new object", new IceStreet().stop(0, 0, 0), -1);
    }

    private void state() {
        e.section("Promise 12");
        e.says("Of a STATE, what 0: the DAY, 1: PAID, 2: LOST, 3: BROKEN, 4: PARTS, 10 + k: where SHOP k is.");
        IceStreet x = Check.street("size 3 2;all 20;crack 0 1;crack 3 4;shore 5;shop 0 9 0 7;shop 1 41 0 6;shop 5 8 0 5;",
            "rent 10;share 0;bar 0;", "day;off 2;sweep 6;");
        int[] told = {1, 40, 6, 1, 2};
        for (int what = 0; what < told.length; what++) {
            e.at("what " + what, x.state(0, 0, 0, 1, what), told[what]);
        }
        e.at("SHOP 0", x.state(0, 0, 0, 2, 10), 0);
        e.at("SHOP 1", x.state(0, 0, 0, 2, 11), -2);
        e.at("SHOP 2", x.state(0, 0, 0, 2, 12), -1);
        e.at("SHOP 2 before", x.state(0, 0, 0, 1, 12), 5);
        e.beyond("SHOP 3", x.state(0, 0, 0, 2, 13), -100);

        e.says("-100: there is no such STATE");
        e.statesUpTo(2, "DAY", (lake, law, plan, n) -> x.state(lake, law, plan, n, 0), -100);
        e.statesUpTo(2, "SHOP 2", (lake, law, plan, n) -> x.state(lake, law, plan, n, 12), -100);

        e.says("or for another what.");
        e.at("what 4", x.state(0, 0, 0, 0, 4), 2);
        for (int what : new int[] {-1, 5, 9, 13, 15, 16, Integer.MIN_VALUE, Integer.MAX_VALUE}) {
            e.beyond("what " + what, x.state(0, 0, 0, 0, what), -100);
        }
        IceStreet six = Check.street(
            "shop 0 1 0 1;shop 1 1 0 1;shop 2 1 0 1;shop 3 1 0 1;shop 4 1 0 1;shop 9 1 0 1;", "", "");
        e.at("what 15 of six", six.state(0, 0, 0, 0, 15), 9);
        e.beyond("what 16 of six", six.state(0, 0, 0, 0, 16), -100);
    }

    private void ice() {
        e.section("Promise 13");
        e.says("Of a CELL in a STATE, what 0: how THICK, 1: SNOW, 2: what it BEARS, 3: its LOAD.");
        IceStreet x = Check.street("size 3 2;all 20;frost -1;snow 4 6;shop 4 9 0 1;", "", "day;sweep 4;sweep 6;");
        int[] told = {19, 6, 36, 9};
        for (int what = 0; what < told.length; what++) {
            e.at("what " + what, x.ice(0, 0, 0, 1, 4, what), told[what]);
        }
        e.at("SNOW behind the next", x.ice(0, 0, 0, 2, 4, 1), 0);
        e.at("THICK at first", x.ice(0, 0, 0, 0, 4, 0), 20);
        e.at("LOAD beside it", x.ice(0, 0, 0, 2, 5, 3), 4);
        e.beyond("what 4", x.ice(0, 0, 0, 0, 4, 4), -1);

        e.says("NONE: there is no such STATE");
        for (int what = 0; what < 4; what++) {
            int asked = what;
            e.statesUpTo(2, "what " + what, (lake, law, plan, n) -> x.ice(lake, law, plan, n, 4, asked), -1);
        }

        e.says("or none such");
        e.at("CELL 5", x.ice(0, 0, 0, 0, 5, 0), 20);
        e.beyond("CELL 6", x.ice(0, 0, 0, 0, 6, 0), -1);
        e.beyond("CELL -1", x.ice(0, 0, 0, 0, -1, 0), -1);
        e.beyond("CELL 35", x.ice(0, 0, 0, 0, 35, 0), -1);
        e.beyond("CELL far off", x.ice(0, 0, 0, 0, Integer.MIN_VALUE, 0), -1);

        e.says("or for another what.");
        e.at("what 3", x.ice(0, 0, 0, 0, 4, 3), 9);
        e.beyond("what 4", x.ice(0, 0, 0, 0, 4, 4), -1);
        e.beyond("what -1", x.ice(0, 0, 0, 0, 4, -1), -1);
        e.beyond("what far off", x.ice(0, 0, 0, 0, 4, Integer.MAX_VALUE), -1);
    }

    private void parts() {
        e.section("Terms 3");
        e.says("PART of a CELL: CELLS (bits) to which one comes by NEAR ones.");
        // 0 1|2
        // 3 4 5     a CRACK between 1 and 2: round it one comes all the same.
        IceStreet x = Check.street("size 3 2;crack 1 2;", "", "");
        e.at("round a CRACK", x.part(0, 0, 0, 0, 0, false), 0b111111);
        IceStreet y = Check.street("size 3 2;ice 0 0;ice 1 0;crack 1 2;crack 4 5;shop 3 1 0 1;", "least 99;lane 0 1;lane 1 0;",
            "");
        e.beyond("by two", y.part(0, 0, 0, 0, 0, false), 0b011011);
        e.beyond("the other PART", y.part(0, 0, 0, 0, 5, false), 0b100100);
        e.at("all of 6 by 6", Check.street("size 6 6;", "", "").part(0, 0, 0, 0, 35, false), (1L << 36) - 1);
        e.beyond("a CELL by itself",
            Check.street("size 6 6;crack 35 34;crack 35 29;", "", "").part(0, 0, 0, 0, 35, false), 1L << 35);
        e.says("PARTS: how many.");
        e.at("one", x.state(0, 0, 0, 0, 4), 1);
        e.beyond("two", y.state(0, 0, 0, 0, 4), 2);
        e.beyond("four", Check.street("size 2 2;crack 0 1;crack 0 2;crack 1 3;crack 2 3;", "", "").state(0, 0, 0, 0, 4), 4);
        e.says("DUES of a PART: what all that stand in it would pay as on a day.");
        x = Check.street("size 3 2;all 29;ice 2 1;crack 1 2;crack 4 5;frost 5;shore 4;"
            + "shop 0 9 0 1;shop 3 9 0 1;shop 4 9 0 1;shop 5 9 0 1;shop 2 9 0 1;", "rent 3;", "off 2;");
        e.at("each cut", x.part(0, 0, 0, 0, 1, true), 8 + 8 + 8);
        e.beyond("one that is off", x.part(0, 0, 0, 1, 1, true), 8 + 8);
        e.at("the other PART, without one that fell", x.part(0, 0, 0, 0, 2, true), 8);
        e.beyond("a PART without SHOPS", Check.street("", "", "").part(0, 0, 0, 0, 1, true), 0);

        e.section("Promise 18");
        e.says("PART (bits), or (dues) its DUES.");
        IceStreet z = Check.street("size 2 2;crack 0 1;crack 2 3;shop 0 1 0 1;", "rent 5;", "day;sweep 4;");
        e.at("PART", z.part(0, 0, 0, 0, 2, false), 0b0101);
        e.at("DUES", z.part(0, 0, 0, 0, 2, true), 10);
        e.beyond("the other PART", z.part(0, 0, 0, 0, 3, false), 0b1010);
        e.beyond("its DUES", z.part(0, 0, 0, 0, 3, true), 0);
        e.says("NONE: as ice().");
        e.statesUpTo(1, "PART", (lake, law, plan, n) -> z.part(lake, law, plan, n, 2, false), -1);
        e.statesUpTo(1, "DUES", (lake, law, plan, n) -> z.part(lake, law, plan, n, 2, true), -1);
        for (int c : new int[] {4, -1, 35, 36, 64, Integer.MAX_VALUE, Integer.MIN_VALUE}) {
            e.beyond("PART of CELL " + c, z.part(0, 0, 0, 0, c, false), -1);
            e.beyond("DUES of CELL " + c, z.part(0, 0, 0, 0, c, true), -1);
        }
    }

    private void spread() {
        e.section("Terms 5");
        e.says("SPREAD: the fewest steps between two SHOPS that stand and have STOVES.");
        String lake = "shore 5;shop 0 9 1 1;shop 15 9 9 1;shop 5 9 1 1;shop 1 9 0 1;";
        IceStreet x = Check.street(lake, "", "off 2;day;off 2;");
        e.at("three", x.spread(0, 0, 0, 0), 2);
        e.beyond("two", x.spread(0, 0, 0, 1), 6);
        e.at("side by side", Check.street("shop 0 9 1 1;shop 1 9 1 1;", "", "").spread(0, 0, 0, 0), 1);
        e.at("a CRACK between", Check.street("crack 0 1;shop 0 9 1 1;shop 1 9 1 1;", "", "").spread(0, 0, 0, 0), 1);
        e.at("corners of 6 by 6", Check.street("size 6 6;shop 0 9 1 1;shop 35 9 1 1;", "", "").spread(0, 0, 0, 0), 10);
        e.at("the later one at CELL 0", Check.street("shop 5 9 1 1;shop 0 9 1 1;", "", "").spread(0, 0, 0, 0), 2);
        e.beyond("the next row's beginning", Check.street("shop 3 9 1 1;shop 4 9 1 1;", "", "").spread(0, 0, 0, 0), 4);

        e.section("Promise 36");
        e.tells("SPREAD.");
        e.at("SPREAD", x.spread(0, 0, -1, 0), 2);
        e.says("NONE: they are fewer");
        e.at("two", x.spread(0, 0, 0, 1), 6);
        e.beyond("one, and one without", Check.street("shop 0 9 1 1;shop 1 9 0 1;", "", "").spread(0, 0, 0, 0), -1);
        e.beyond("one without, and one", Check.street("shop 0 9 0 1;shop 1 9 1 1;", "", "").spread(0, 0, 0, 0), -1);
        e.beyond("one, and one that fell",
            Check.street("ice 1 1;shop 0 9 1 1;shop 1 9 1 1;", "", "").spread(0, 0, 0, 0), -1);
        e.beyond("one that fell, and one",
            Check.street("ice 0 1;shop 0 9 1 1;shop 1 9 1 1;", "", "").spread(0, 0, 0, 0), -1);
        e.beyond("one off, and one",
            Check.street("shore 0;shop 0 9 1 1;shop 1 9 1 1;", "", "off 0;").spread(0, 0, 0, 1), -1);
        e.beyond("one, and one off",
            Check.street("shore 1;shop 0 9 1 1;shop 1 9 1 1;", "", "off 1;").spread(0, 0, 0, 1), -1);
        e.beyond("none", Check.street("", "", "").spread(0, 0, 0, 0), -1);
        e.says("or there is no such STATE.");
        e.statesUpTo(2, "SPREAD", (l, w, plan, n) -> x.spread(l, w, plan, n), -1);
    }
}
