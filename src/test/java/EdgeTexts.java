/** Terms 1 and promises 1 to 10, 37 to 39, sentence by sentence: texts, their FAULTS, what was told, images. */
final class EdgeTexts {
    private static final String SIX =
        "shop 0 1 1 1;shop 1 1 1 1;shop 2 1 1 1;shop 3 1 1 1;shop 4 1 1 1;shop 5 1 1 1;";
    private static final String TWELVE_FROSTS = "frost 1 2 3 4 5 6 7 8 9 0 1 2";

    private final Edge e;

    EdgeTexts(Edge edge) {
        e = edge;
    }

    void all() {
        lakes();
        lawsAndPlans();
        tokens();
        lines();
        laterOnes();
        firstFault();
        faultsOfNumbers();
        faultsOfCells();
        newObject();
        tape();
        text();
        fault();
        told();
        countsAndImages();
    }

    private static IceStreet lake(String text) {
        return Check.street(text, "", "");
    }

    private static IceStreet law(String text) {
        return Check.street("", text, "");
    }

    private void lakes() {
        e.section("Terms 1");
        e.says("A LAKE has W columns and H rows, 2 .. 6");
        e.fine(0, "size 2 2;");
        e.fine(0, "size 6 6;");
        e.at("W of size 2 6", lake("size 2 6;").lake(0, 0), 2);
        e.at("H of size 2 6", lake("size 2 6;").lake(0, 1), 6);
        e.bad(0, "size 1 2;", 2, 5);
        e.bad(0, "size 2 1;", 2, 7);
        e.bad(0, "size 7 6;", 2, 5);
        e.bad(0, "size 6 7;", 2, 7);
        e.bad(0, "size 0 6;", 2, 5);
        e.bad(0, "size 66 6;", 2, 5);

        e.says("(4 and 4 at first)");
        IceStreet x = lake("");
        e.at("W", x.lake(0, 0), 4);
        e.at("H", x.lake(0, 1), 4);
        e.at("CELL 15", x.cell(0, 15, 0), 20);
        e.beyond("CELL 16", x.cell(0, 16, 0), -1);

        e.says("of CELLS, numbered row by row from 0 on");
        x = lake("size 3 2;");
        e.at("CELL 0", x.cell(0, 0, 0), 20);
        e.at("CELL 5", x.cell(0, 5, 0), 20);
        e.at("CELLS of SHORT from 0 to 3, the one below", x.way(0, 0, 0, 0, 1, 0, 3, 0, 0), 2);
        e.at("CELLS of SHORT from 1 to 2, the one beside", x.way(0, 0, 0, 0, 1, 1, 2, 0, 0), 2);
        e.beyond("CELL 6", x.cell(0, 6, 0), -1);
        e.beyond("CELL -1", x.cell(0, -1, 0), -1);
        e.beyond("CELLS of SHORT from 2 to 3, of another row", x.way(0, 0, 0, 0, 1, 2, 3, 0, 0), 4);

        e.says("each is THICK, 0 .. 99");
        e.at("all 0", lake("all 0;").cell(0, 15, 0), 0);
        e.at("all 99", lake("all 99;").cell(0, 15, 0), 99);
        e.at("ice 99", lake("ice 3 99;").cell(0, 3, 0), 99);
        e.at("ice 0", lake("ice 3 0;").cell(0, 3, 0), 0);
        e.bad(0, "all 100;", 1, 4);
        e.bad(0, "all -1;", 1, 4);
        e.bad(0, "ice 3 100;", 1, 6);
        e.bad(0, "ice 3 -1;", 1, 6);

        e.tells("(20 at first)");
        x = lake("ice 3 9;");
        for (int c = 0; c < 16; c++) {
            e.at("THICK of " + c, x.cell(0, c, 0), c == 3 ? 9 : 20);
        }

        e.says("has SNOW, 0 .. 9 (0)");
        e.at("SNOW at first", lake("").cell(0, 3, 1), 0);
        e.at("snow 0", lake("snow 3 0;").cell(0, 3, 1), 0);
        e.at("snow 9", lake("snow 3 9;").cell(0, 3, 1), 9);
        e.bad(0, "snow 3 10;", 2, 7);
        e.bad(0, "snow 3 -1;", 1, 7);

        e.says("is WEAK, 0 .. 9 (of 10; 0)");
        e.at("WEAK at first", lake("").cell(0, 3, 2), 0);
        e.at("weak 9", lake("weak 3 9;").cell(0, 3, 2), 9);
        e.at("chance where it is WEAK by 9 of 10", lake("weak 3 9;").luck(0, 0, 0, 0, 1, 2, 3), 1_000_000);
        e.at("chance where it is not", lake("weak 3 0;").luck(0, 0, 0, 0, 1, 2, 3), 10_000_000);
        e.bad(0, "weak 3 10;", 2, 7);

        e.says("CRACKS between two CELLS side by side");
        e.fine(0, "crack 0 1;crack 3 2;");
        e.bad(0, "crack 0 2;", 4, 10);
        e.bad(0, "crack 3 4;", 4, 10);

        e.says("(one above the other, too)");
        e.fine(0, "crack 0 4;crack 7 3;");
        e.bad(0, "crack 0 8;", 4, 10);
        e.bad(0, "crack 0 5;", 4, 10);
        e.bad(0, "crack 1 4;", 4, 10);

        e.says("FROSTS, a row of 1 to 12 numbers");
        e.at("FROSTS of one", lake("frost 5;").lake(0, 3), 1);
        e.at("FROSTS of twelve", lake(TWELVE_FROSTS + ";").lake(0, 3), 12);
        e.at("the twelfth", lake(TWELVE_FROSTS + ";").lake(0, 31), 2);
        e.bad(0, "frost;", 1, 5);
        e.bad(0, TWELVE_FROSTS + " 3;", 3, 30);

        e.says("-20 .. 20 (one, 0)");
        e.at("FROSTS at first", lake("").lake(0, 3), 1);
        e.at("number 0 at first", lake("").lake(0, 20), 0);
        e.at("-20", lake("frost -20 20;").lake(0, 20), -20);
        e.at("20", lake("frost -20 20;").lake(0, 21), 20);
        e.bad(0, "frost 21;", 2, 6);
        e.bad(0, "frost -21;", 2, 7);
        e.bad(0, "frost 0 - 21;", 2, 10);

        e.says("BEAR, 1 .. 99 (10)");
        e.at("BEAR at first", lake("").lake(0, 2), 10);
        e.at("bear 1", lake("bear 1;").lake(0, 2), 1);
        e.at("bear 99", lake("bear 99;").lake(0, 2), 99);
        e.bad(0, "bear 0;", 2, 5);
        e.bad(0, "bear 00;", 2, 5);
        e.bad(0, "bear 100;", 1, 5);

        e.says("SHORES: CELLS (none at first)");
        for (int c = 0; c < 16; c++) {
            e.at("SHORE at first, " + c, lake("").cell(0, c, 3), 0);
        }
        e.at("shore 0", lake("shore 0 15;").cell(0, 0, 3), 1);
        e.at("shore 15", lake("shore 0 15;").cell(0, 15, 3), 1);
        e.at("not told", lake("shore 0 15;").cell(0, 14, 3), 0);
        e.bad(0, "shore 0 16;", 4, 11);

        e.says("SHOPS, at most 6, from 0 on");
        e.at("SHOPS at first", lake("").lake(0, 4), 0);
        e.at("six SHOPS", lake(SIX).lake(0, 4), 6);
        e.at("CELL of SHOP 0", lake(SIX).shop(0, 0, 0), 0);
        e.at("CELL of SHOP 5", lake(SIX).shop(0, 5, 0), 5);
        e.beyond("CELL of SHOP 6", lake(SIX).shop(0, 6, 0), -1);
        e.bad(0, SIX + "shop 6 1 1 1;", 3, 78);

        e.says("a CELL, a WEIGHT, 1 .. 99");
        e.at("shop 15", lake("shop 15 1 0 0;").shop(0, 0, 0), 15);
        e.at("WEIGHT 1", lake("shop 15 1 0 0;").shop(0, 0, 1), 1);
        e.at("WEIGHT 99", lake("shop 0 99 0 0;").shop(0, 0, 1), 99);
        e.bad(0, "shop 16 1 0 0;", 4, 14);
        e.bad(0, "shop 0 0 0 0;", 2, 7);
        e.bad(0, "shop 0 100 0 0;", 1, 7);

        e.says("a STOVE, 0 .. 9");
        e.at("STOVE 0", lake("shop 0 1 0 5;").shop(0, 0, 2), 0);
        e.at("STOVE 9", lake("shop 0 1 9 5;").shop(0, 0, 2), 9);
        e.bad(0, "shop 0 1 10 5;", 2, 9);

        e.says("a WORTH, 0 .. 99.");
        e.at("WORTH 0", lake("shop 0 1 5 0;").shop(0, 0, 3), 0);
        e.at("WORTH 99", lake("shop 0 1 5 99;").shop(0, 0, 3), 99);
        e.bad(0, "shop 0 1 5 100;", 1, 11);
    }

    private void lawsAndPlans() {
        e.says("A LAW has LEAST, 0 .. 99 (0 at first)");
        e.at("LEAST at first", law("").law(0, 0), 0);
        e.at("least 0", law("least 5;least 0;").law(0, 0), 0);
        e.at("least 99", law("least 99;").law(0, 0), 99);
        e.bad(1, "least 100;", 1, 6);
        e.bad(1, "least -1;", 1, 6);

        e.says("APART, 0 .. 9 (0)");
        e.at("APART at first", law("").law(0, 1), 0);
        e.at("apart 9", law("apart 9;").law(0, 1), 9);
        e.bad(1, "apart 10;", 2, 6);

        e.says("SHARE, 0 .. 10 (of 10; 5)");
        e.at("SHARE at first", law("").law(0, 2), 5);
        e.at("share 0", law("share 0;").law(0, 2), 0);
        e.at("share 10", law("share 10;").law(0, 2), 10);
        e.bad(1, "share 11;", 2, 6);

        e.says("RENT, 0 .. 99 (1)");
        e.at("RENT at first", law("").law(0, 3), 1);
        e.at("rent 0", law("rent 0;").law(0, 3), 0);
        e.at("rent 99", law("rent 99;").law(0, 3), 99);
        e.bad(1, "rent 100;", 1, 5);

        e.says("LANES: from a CELL to another one, at most 12");
        e.at("LANES at first", law("").law(0, 4), 0);
        e.at("12 LANES", law("lane 1 2;".repeat(12)).law(0, 4), 12);
        e.at("the last is from", law("lane 1 2;".repeat(11) + "lane 35 0;").law(0, 31), 35);
        e.at("the last is to", law("lane 1 2;".repeat(11) + "lane 35 0;").law(0, 51), 0);
        e.bad(1, "lane 1 2;".repeat(13), 3, 108);
        e.bad(1, "lane 2 2;", 2, 7);
        e.bad(1, "lane 36 2;", 2, 5);

        e.says("BARRED CELLS (what is told of CELLS that are not there does not matter).");
        String small = "size 2 2;shop 3 1 0 1;";
        e.at("BROKEN on a BARRED CELL", Check.street(small, "bar 3;", "").state(0, 0, 0, 0, 3), 1);
        e.at("SHORT against a LANE", Check.street(small, "lane 1 0;", "").way(0, 0, 0, 0, 1, 0, 1, 0, 0), -1);
        IceStreet x = Check.street(small, "bar 4 35;lane 4 0;lane 0 4;lane 35 1;lane 5 4;", "");
        e.beyond("BROKEN by a BARRED CELL that is not there", x.state(0, 0, 0, 0, 3), 0);
        e.beyond("SHORT by LANES of CELLS that are not there", x.way(0, 0, 0, 0, 1, 0, 1, 0, 0), 2);
        e.beyond("FROM by such LANES", x.from(0, 0, 0, 0, 1, 0), 0b0110);
        e.beyond("LANES", x.law(0, 4), 4);
        e.bad(1, "bar 36;", 2, 4);

        e.says("A PLAN has ACTS, at most 30, from 0 on.");
        x = Check.street("", "", "sweep 7;" + "day;".repeat(28) + "sweep 9;");
        e.at("ACTS", x.act(0, -1, 0), 30);
        e.at("ACT 0", x.act(0, 0, 1), 7);
        e.at("ACT 29", x.act(0, 29, 1), 9);
        e.at("no ACTS", law("").act(0, -1, 0), 0);
        e.beyond("ACT 30", x.act(0, 30, 1), -2);
        e.bad(2, "day;".repeat(31), 3, 120);
    }

    private void tokens() {
        e.says("THE TAPE has at most 600 bytes.");
        IceStreet x = new IceStreet();
        for (int k = 1; k <= 30; k++) {
            e.at("feed", x.feed(0x20202020, 0x20202020, 0x20202020, 0x20202020, 0x20202020), 20 * k);
        }
        e.beyond("a byte more", x.end(601), -1);
        e.beyond("twenty more", x.feed(0, 0, 0, 0, 0), -1);
        e.at("all of them", x.end(600), 600);
        e.at("as a text", x.text(2, -1), 0);
        e.fine(0, "all 9;".repeat(100));
        e.fine(0, "all 9 ;".repeat(85) + "\n\n\n\n\n");
        e.bad(0, "all 9;".repeat(99) + "all 99", 1, 600);
        e.bad(0, "all 9;".repeat(99) + "al9 9;", 1, 594);
        e.bad(2, " ".repeat(599) + "x", 1, 599);

        e.says("TOKENS, as long as they go");
        e.fine(0, "all20;size2 2;frost1-2;");
        e.bad(0, "allall 2 2;", 1, 0);
        e.bad(0, "size22;", 1, 6);
        e.bad(0, "size 22 2;", 2, 5);
        e.bad(0, "sizesize", 1, 0);
        e.bad(2, "days;", 1, 0);
        e.bad(2, "da;", 1, 0);

        e.says("blanks (10, 32) between");
        e.fine(0, "\n all\n\n9 \n ;\n");
        e.fine(0, " ");
        e.fine(0, "\n");
        for (int b : new int[] {0, 9, 11, 12, 13, 31, 33, 127, 128, 138, 160, 255}) {
            e.bad(0, "all" + (char) b + "9;", 1, 3);
            e.bad(0, "all 9;" + (char) b, 1, 6);
        }

        e.says("words, rows of letters a .. z");
        e.fine(0, "all 9;size 2 2;");
        e.bad(0, "`all 9;", 1, 0);
        e.bad(0, "{all 9;", 1, 0);
        e.bad(0, "all`9;", 1, 3);
        e.bad(0, "all{9;", 1, 3);
        e.bad(0, "All 9;", 1, 0);
        e.bad(0, "aLl 9;", 1, 0);
        e.bad(0, "all_9;", 1, 3);
        e.bad(0, "\u00e1ll 9;", 1, 0);
        e.bad(0, "a ll 9;", 1, 0);
        e.bad(0, "zll 9;", 1, 0);

        e.says("NUMBERS, 1 or 2 digits");
        e.at("all 0", lake("all 0;").cell(0, 0, 0), 0);
        e.at("all 07", lake("all 07;").cell(0, 0, 0), 7);
        e.at("all 90", lake("all 90;").cell(0, 0, 0), 90);
        e.bad(0, "all 007;", 1, 4);
        e.bad(0, "all 1000000000000;", 1, 4);
        e.bad(0, "all;", 1, 3);
        e.bad(0, "all /;", 1, 4);
        e.bad(0, "all :;", 1, 4);
        e.bad(0, "all 9/;", 1, 5);
        e.bad(0, "all 9:;", 1, 5);
        e.bad(0, "all 9 9;", 1, 6);

        e.says("- and ; one byte each.");
        e.fine(0, "frost-1-2;all 9;all 8;");
        e.bad(0, "frost--1;", 1, 6);
        e.bad(0, "all 9;;", 1, 6);
        e.bad(0, ";", 1, 0);
        e.bad(0, "-", 1, 0);
        e.bad(0, "all 9,", 1, 5);
        e.bad(0, "all 9:", 1, 5);

        e.says("SIGNED = ['-'] NUMBER.");
        x = lake("frost 5 -5 - 6 -0 -\n07;");
        int[] frosts = {5, -5, -6, 0, -7, -100};
        for (int k = 0; k < frosts.length; k++) {
            e.at("number " + k, x.lake(0, 20 + k), frosts[k]);
        }
        e.bad(0, "frost -;", 1, 7);
        e.bad(0, "frost 1 -;", 1, 9);
        e.bad(0, "frost 1 -;x", 1, 9);
        e.bad(0, "frost - - 5;", 1, 8);
        e.bad(0, "frost +5;", 1, 6);
        e.bad(0, "frost 5-;", 1, 8);
        e.bad(0, "frost -", 1, 7);
    }

    /** A line as it should be, with a number too few, one too many, and without its end. */
    private void line(int sort, String line, boolean more) {
        e.fine(sort, line + ";");
        e.bad(sort, line, 1, line.length());
        e.bad(sort, line + " ", 1, line.length() + 1);
        e.bad(sort, line + ";x", 1, line.length() + 1);
        e.bad(sort, line + " x;", 1, line.length() + 1);
        if (more) {
            e.fine(sort, line + " 1;");
        } else {
            e.bad(sort, line + " 1;", 1, line.length() + 1);
        }
        int last = line.lastIndexOf(' ');
        if (last > 0) {
            e.bad(sort, line.substring(0, last) + ";", 1, last);
            e.bad(sort, line.substring(0, last) + ";x", 1, last);
            e.bad(sort, line.substring(0, last), 1, last);
            e.bad(sort, line.substring(0, last) + " x;", 1, last + 1);
        }
        for (int other = 0; other < 3; other++) {
            if (other != sort) {
                e.bad(other, line + ";", 1, 0);
            }
        }
    }

    private void lines() {
        e.says("A LAKE's text: {('size' NUMBER NUMBER | 'all' NUMBER | ('ice' | 'snow' | 'weak') NUMBER NUMBER "
            + "| 'crack' NUMBER NUMBER | 'frost' SIGNED {SIGNED} | 'bear' NUMBER | 'shore' NUMBER {NUMBER} "
            + "| 'shop' NUMBER NUMBER NUMBER NUMBER) ';'}");
        e.fine(0, "");
        for (String line : new String[] {"size 4 4", "all 1", "ice 1 1", "snow 1 1", "weak 1 1", "crack 0 1", "bear 1",
            "shop 1 1 1 1"}) {
            line(0, line, false);
        }
        line(0, "frost 1", true);
        line(0, "shore 1", true);
        e.fine(0, "frost 1 -2 3 -4;shore 1 2 3 4 5 6 7 8 9 10 11 12 13 14 15 1 1 1;");
        e.bad(0, "shore 1 -2;", 1, 8);
        e.bad(0, "shore -1;", 1, 6);
        e.bad(0, "size -4 4;", 1, 5);

        e.tells("(W, H; all: every CELL is so THICK; ice, snow, weak: CELL, how much; shop: CELL, WEIGHT, STOVE, WORTH).");
        IceStreet x = lake("size 3 5;all 30;ice 1 2;snow 3 4;weak 5 6;shop 7 8 9 10;");
        e.at("W", x.lake(0, 0), 3);
        e.at("H", x.lake(0, 1), 5);
        e.at("all", x.cell(0, 14, 0), 30);
        e.at("ice", x.cell(0, 1, 0), 2);
        e.at("snow", x.cell(0, 3, 1), 4);
        e.at("weak", x.cell(0, 5, 2), 6);
        for (int what = 0; what < 4; what++) {
            e.at("shop " + what, x.shop(0, 0, what), 7 + what);
        }

        e.says("A LAW's text: {(('least' | 'apart' | 'share' | 'rent') NUMBER | 'lane' NUMBER NUMBER "
            + "| 'bar' NUMBER {NUMBER}) ';'}.");
        e.fine(1, "");
        for (String line : new String[] {"least 1", "apart 1", "share 1", "rent 1", "lane 2 1"}) {
            line(1, line, false);
        }
        line(1, "bar 1", true);
        e.bad(1, "bar 1 -2;", 1, 6);
        e.bad(1, "rent -1;", 1, 5);

        e.says("A PLAN's text: {('day' | 'move' NUMBER NUMBER | 'off' NUMBER | 'go' NUMBER NUMBER NUMBER "
            + "| 'sweep' NUMBER) ';'}");
        e.fine(2, "");
        for (String line : new String[] {"day", "move 1 1", "off 1", "go 1 2 1", "sweep 1"}) {
            line(2, line, false);
        }
        e.bad(2, "go 1 2 -1;", 1, 7);

        e.says("(move: SHOP, CELL; off: SHOP; go: a load, 1 .. 99, from which CELL, to which other one; sweep: CELL).");
        x = Check.street("", "", "move 1 2;off 3;go 99 4 5;sweep 6;go 1 6 7;");
        int[][] acts = {{1, 1, 2, -1}, {2, 3, -1, -1}, {3, 99, 4, 5}, {4, 6, -1, -1}, {3, 1, 6, 7}};
        for (int i = 0; i < acts.length; i++) {
            for (int what = 0; what < 4; what++) {
                e.at("ACT " + i + ", " + what, x.act(0, i, what), acts[i][what]);
            }
        }
        e.bad(2, "go 0 4 5;", 2, 3);
        e.bad(2, "go 100 4 5;", 1, 3);
        e.bad(2, "go 1 5 5;", 2, 7);
        e.bad(2, "go 1 5 05;", 2, 7);

        e.says("SHOPS are 0 .. 5, CELLS 0 .. 35.");
        e.fine(2, "move 5 35;move 0 0;off 5;off 0;go 1 35 0;go 1 0 35;sweep 35;sweep 0;");
        e.bad(2, "move 6 0;", 2, 5);
        e.bad(2, "move 0 36;", 2, 7);
        e.bad(2, "off 6;", 2, 4);
        e.bad(2, "go 1 36 0;", 2, 5);
        e.bad(2, "go 1 0 36;", 2, 7);
        e.bad(2, "sweep 36;", 2, 6);
        e.fine(1, "lane 35 0;lane 0 35;bar 0 35;");
        e.bad(1, "lane 36 0;", 2, 5);
        e.bad(1, "lane 0 36;", 2, 7);
        e.bad(1, "bar 0 36;", 2, 6);
        e.fine(0, "size 6 6;ice 35 1;snow 35 1;weak 35 1;crack 35 34;crack 29 35;shore 35;shop 35 1 1 1;");
        e.bad(0, "ice 36 1;", 2, 4);
        e.bad(0, "snow 36 1;", 2, 5);
        e.bad(0, "weak 36 1;", 2, 5);
        e.bad(0, "crack 36 35;", 2, 6);
        e.bad(0, "crack 35 36;", 2, 9);
        e.bad(0, "shore 0 36;", 2, 8);
        e.bad(0, "shop 36 1 1 1;", 2, 5);
    }

    private void laterOnes() {
        e.says("Later ones strike (frost: the whole row)");
        IceStreet x = lake("size 2 3;size 5 6;ice 2 7;all 30;all 31;ice 1 8;ice 1 9;snow 1 2;snow 1 3;weak 1 4;weak 1 5;"
            + "bear 6;bear 7;frost 1 2 3;frost 4;");
        e.at("W", x.lake(0, 0), 5);
        e.at("H", x.lake(0, 1), 6);
        e.at("ice before all", x.cell(0, 2, 0), 31);
        e.at("ice behind all", x.cell(0, 1, 0), 9);
        e.at("snow", x.cell(0, 1, 1), 3);
        e.at("weak", x.cell(0, 1, 2), 5);
        e.at("bear", x.lake(0, 2), 7);
        e.at("FROSTS", x.lake(0, 3), 1);
        e.at("number 0", x.lake(0, 20), 4);
        e.beyond("number 1 of the row before", x.lake(0, 21), -100);
        e.at("a row behind a longer one", lake("frost 1;" + TWELVE_FROSTS + ";").lake(0, 3), 12);
        e.at("LAW", law("least 1;least 2;").law(0, 0), 2);
        e.at("LAW", law("apart 1;apart 2;").law(0, 1), 2);
        e.at("LAW", law("share 1;share 2;").law(0, 2), 2);
        e.at("LAW", law("rent 1;rent 2;").law(0, 3), 2);
        // The NUMBER before can't be all the same.
        e.bad(0, "size 1 4;size 4 4;", 2, 5);

        e.says("but CRACKS, SHORES, SHOPS, LANES, BARRED CELLS, ACTS, which are further ones.");
        x = Check.street("crack 0 1;crack 0 4;shore 1 2;shore 5;shop 1 2 3 4;shop 2 3 4 5;",
            "lane 1 2;lane 3 4;bar 1 2;bar 5;", "day;sweep 1;");
        e.at("CRACKS", x.cell(0, 0, 4), 2);
        e.at("SHORE 1", x.cell(0, 1, 3), 1);
        e.at("SHORE 5", x.cell(0, 5, 3), 1);
        e.at("SHOPS", x.lake(0, 4), 2);
        e.at("SHOP 0", x.shop(0, 0, 1), 2);
        e.at("SHOP 1", x.shop(0, 1, 1), 3);
        e.at("LANES", x.law(0, 4), 2);
        e.at("LANE 0", x.law(0, 20), 1);
        e.at("LANE 1", x.law(0, 21), 3);
        e.at("BARRED 2", x.law(0, 62), 1);
        e.at("BARRED 5", x.law(0, 65), 1);
        e.at("ACTS", x.act(0, -1, 0), 2);
        e.beyond("a third SHOP", x.shop(0, 2, 1), -1);
        e.beyond("a third LANE", x.law(0, 22), -1);
        e.beyond("BARRED 3", x.law(0, 63), 0);
        e.beyond("a third ACT", x.act(0, 2, 0), -2);
        e.beyond("SHORE 3", x.cell(0, 3, 3), 0);
    }

    private void firstFault() {
        e.says("FAULTS of all, with places (a token's first byte; the end's): "
            + "1 the first byte or token with which no text goes on");
        e.fine(0, "all 9;");
        e.bad(0, "  bar 9;", 1, 2);
        e.bad(0, "all 9 all;", 1, 6);
        e.bad(0, "all 9;all bear;!", 1, 10);
        e.bad(0, "all 9;!all;", 1, 6);
        e.bad(0, "all 9", 1, 5);
        e.bad(0, "all 9 \n ", 1, 8);
        e.bad(0, "all", 1, 3);
        e.bad(0, "all 9;size", 1, 10);
        e.bad(2, "go 9 9", 1, 6);

        e.says("(a longer row of digits is no token).");
        e.fine(0, "all 99;");
        e.bad(0, "all 999;", 1, 4);
        e.bad(0, "all 9 999;", 1, 6);
        e.bad(0, "999", 1, 0);
        e.bad(0, "shop 1 2 3 0004;", 1, 11);
        e.bad(0, "bear 0;all 999;", 1, 11);

        e.says("If there is none, the first by place");
        e.bad(0, "bear 0;size 1 1;", 2, 5);
        e.bad(0, "size 1 1;", 2, 5);
        e.bad(0, TWELVE_FROSTS + " 3;bear 0;", 3, 30);
        e.bad(0, "bear 0;" + TWELVE_FROSTS + " 3;", 2, 5);
        e.bad(0, TWELVE_FROSTS + " 3 4;", 3, 30);
        e.bad(0, SIX + "shop 6 0 10 1;", 3, 78);
        e.bad(0, SIX + "shop 6 1 1 1;shop 7 1 1 1;", 3, 78);
        // One with which no text goes on is before all others.
        e.bad(0, "bear 0;" + TWELVE_FROSTS + " 3;ice 16 1;x", 1, 48);
        e.bad(0, "bear 0;" + TWELVE_FROSTS + " 3", 1, 38);
        e.fine(0, "bear 1;");

        e.says("of one place the least:");
        e.fine(0, TWELVE_FROSTS + ";");
        e.bad(0, TWELVE_FROSTS + " 20;", 3, 30);
        e.bad(0, TWELVE_FROSTS + " 21;", 2, 30);
        e.bad(0, TWELVE_FROSTS + " -21;", 3, 30);
    }

    private void faultsOfNumbers() {
        e.says("2 a NUMBER that can't be (as above;");
        e.fine(0, "bear 1;");
        e.bad(0, "bear 0;", 2, 5);
        e.bad(0, "bear  00 ;", 2, 6);

        e.says("of crack, lane, go the second CELL, if it is the first;");
        e.fine(0, "crack 1 2;");
        e.fine(1, "lane 1 2;");
        e.fine(2, "go 3 1 2;");
        // A load is no CELL.
        e.fine(2, "go 1 1 2;go 2 1 2;");
        e.bad(0, "crack 1 1;", 2, 8);
        e.bad(1, "lane 1 01;", 2, 7);
        e.bad(2, "go 3 1 1;", 2, 7);
        e.bad(0, "crack 36 36;", 2, 6);
        e.bad(2, "go 0 1 1;", 2, 3);
        e.fine(2, "move 1 1;");
        e.fine(0, "ice 1 1;");

        e.says("a line with such a NUMBER tells its shop, lane, ACT all the same);");
        e.fine(0, SIX);
        e.bad(0, SIX.replace("shop 5 1", "shop 5 0"), 2, 72);
        e.bad(0, SIX + "shop 6 0 1 1;", 3, 78);
        e.bad(1, "lane 1 2;".repeat(12) + "lane 1 1;", 3, 108);
        e.bad(2, "day;".repeat(30) + "off 6;", 3, 120);
        e.bad(2, "off 6;" + "day;".repeat(30), 2, 4);

        e.says("3 a 13th number of frost, at it (its -, if it has one)");
        e.fine(0, TWELVE_FROSTS + ";");
        e.fine(0, "frost 1 2 3 4 5 6 7;frost 1 2 3 4 5 6;");
        e.bad(0, TWELVE_FROSTS + " 3;", 3, 30);
        e.bad(0, TWELVE_FROSTS + " -3;", 3, 30);
        e.bad(0, TWELVE_FROSTS + " - 3;", 3, 30);
        e.bad(0, TWELVE_FROSTS + "  3 -3;", 3, 31);
        e.bad(0, TWELVE_FROSTS + " 3;frost 1;", 3, 30);
        e.bad(0, TWELVE_FROSTS + ";" + TWELVE_FROSTS + " 3;", 3, 60);

        e.says("a 7th shop, 13th lane, 31st ACT, at its first token.");
        e.fine(0, SIX);
        e.fine(1, "lane 1 2;".repeat(12));
        e.fine(2, "day;".repeat(30));
        e.bad(0, SIX + "\n shop 6 1 1 1;", 3, 80);
        e.bad(1, "lane 1 2;".repeat(12) + " lane 1 2;", 3, 109);
        e.bad(2, "day;".repeat(30) + " day;", 3, 121);
        for (String act : new String[] {"move 1 1;", "off 1;", "go 1 2 1;", "sweep 1;"}) {
            e.fine(2, "day;".repeat(29) + act);
            e.bad(2, "day;".repeat(30) + act, 3, 120);
        }
        e.bad(0, SIX + "shop 6 1 1 1;all 9", 1, 96);
    }

    private void faultsOfCells() {
        e.says("If there is none of these, at the end's place: 4 of a LAKE a CELL that was told of and is not there");
        String[][] lines = {{"ice ", " 1;"}, {"snow ", " 1;"}, {"weak ", " 1;"}, {"shore ", ";"}, {"shore 1 ", ";"},
            {"shop ", " 1 1 1;"}};
        for (String[] line : lines) {
            e.fine(0, line[0] + 15 + line[1]);
            e.fine(0, line[0] + 35 + line[1] + "size 6 6;");
            e.fine(0, "size 2 3;" + line[0] + 5 + line[1]);
            String text = line[0] + 16 + line[1];
            e.bad(0, text, 4, text.length());
            e.bad(0, text + " \n", 4, text.length() + 2);
            e.bad(0, text + "bear 0;", 2, text.length() + 5);
            text = line[0] + 6 + line[1] + "size 2 3;";
            e.bad(0, text, 4, text.length());
            text = line[0] + 35 + line[1] + "size 6 5;";
            e.bad(0, text, 4, text.length());
        }
        e.fine(0, "crack 14 15;crack 11 15;");
        e.bad(0, "crack 15 16;", 4, 12);
        e.bad(0, "crack 12 16;", 4, 12);
        e.bad(0, "crack 16 17;", 4, 12);
        // Struck by a later size, or all: it was told of all the same.
        e.bad(0, "ice 16 9;ice 1 9;all 9;", 4, 23);
        e.fine(1, "bar 35;lane 35 34;");
        e.fine(2, "sweep 35;go 1 35 34;move 5 35;");

        e.says("two of a CRACK that do not lie side by side");
        e.fine(0, "crack 1 2;crack 2 6;");
        e.bad(0, "crack 1 3;", 4, 10);
        e.bad(0, "crack 3 4;", 4, 10);
        e.bad(0, "crack 1 6;", 4, 10);
        e.bad(0, "crack 1 9;\n", 4, 11);
        // By the size behind the whole text.
        e.fine(0, "crack 3 4;size 5 2;");
        e.bad(0, "crack 3 4;size 4 2;", 4, 19);
        e.fine(0, "crack 0 3;size 3 3;");
        e.bad(0, "crack 0 3;size 2 3;", 4, 19);

        e.says("a second SHOP in a CELL.");
        e.fine(0, "shop 3 1 1 1;shop 4 1 1 1;");
        e.bad(0, "shop 3 1 1 1;shop 3 1 1 1;", 4, 26);
        e.bad(0, "shop 3 1 1 1;shop 4 1 1 1;shop 03 2 2 2; ", 4, 41);

        e.says("LAKES, at most 2 (sort 0), LAWS, at most 2 (1), PLANS, at most 3 (2), from 0 on.");
        int[] most = {2, 2, 3};
        for (int sort = 0; sort < 3; sort++) {
            IceStreet x = new IceStreet();
            for (int k = 0; k < most[sort]; k++) {
                e.at("one of sort " + sort, x.text(sort, -1), k);
                e.at("how many", x.count(sort), k + 1);
            }
            e.beyond("one more of sort " + sort, x.text(sort, -1), -2);
            e.beyond("how many yet", x.count(sort), most[sort]);
            e.at("others of sort " + (sort + 1) % 3, x.count((sort + 1) % 3), 0);
        }
    }

    private void newObject() {
        e.section("Constants");
        e.tells("`NONE = -1`: There is none.");
        e.at("NONE", IceStreet.NONE, -1);

        e.section("Promise 1");
        e.says("No LAKES, LAWS, PLANS; no images.");
        IceStreet x = new IceStreet();
        for (int sort = 0; sort < 3; sort++) {
            e.at("count " + sort, x.count(sort), 0);
            e.at("again " + sort, x.again(sort), false);
        }
        e.beyond("LAKE 0", x.lake(0, 0), -100);
        e.beyond("LAW 0", x.law(0, 0), -1);
        e.beyond("PLAN 0", x.act(0, -1, 0), -2);
        e.beyond("STATE", x.state(0, 0, -1, 0, 0), -100);
        e.beyond("FAULT", x.fault(0), 0);
        e.beyond("its place", x.fault(1), -1);
        e.beyond("the tape", x.end(1), -1);
    }

    private void tape() {
        e.section("Promise 2");
        e.tells("The tape: twenty bytes come behind it, of each number the highest first:");
        IceStreet x = new IceStreet();
        // "day; day;off 3;swe" and "ep 12;", cut.
        x.feed(0x6461793b, 0x20646179, 0x3b6f6666, 0x20333b73, 0x77656570);
        x.feed(0x2031323b, 0x7fffffff, 0x80000000, -1, 0);
        e.at("end", x.end(24), 24);
        e.at("text", x.text(2, -1), 0);
        e.at("ACTS", x.act(0, -1, 0), 4);
        e.at("SHOP of the third", x.act(0, 2, 1), 3);
        e.at("CELL of the fourth", x.act(0, 3, 1), 12);
        x.feed(0xff000000, 0, 0, 0, 0);
        e.at("a byte of 255", x.text(2, -1), -1);
        e.at("its place", x.fault(1), 0);

        e.tells("how many it has.");
        e.at("at first", x.feed(0, 0, 0, 0, 0), 20);
        e.at("then", x.feed(0, 0, 0, 0, 0), 40);
        e.at("cut", x.end(7), 7);
        e.at("behind it", x.feed(0, 0, 0, 0, 0), 27);

        e.says("NONE, and nothing comes, if there would be more than 600.");
        x = new IceStreet();
        for (int k = 0; k < 29; k++) {
            x.feed(0x20202020, 0x20202020, 0x20202020, 0x20202020, 0x20202020);
        }
        e.at("end 580", x.end(580), 580);
        e.at("just 600", x.feed(0x20202020, 0x20202020, 0x20202020, 0x20202020, 0x20202020), 600);
        e.at("end 600", x.end(600), 600);
        e.beyond("620", x.feed(0, 0, 0, 0, 0), -1);
        e.beyond("nothing came", x.end(601), -1);
        e.at("end 581", x.end(581), 581);
        e.beyond("601", x.feed(0, 0, 0, 0, 0), -1);
        e.beyond("nothing came", x.end(582), -1);
        e.beyond("blanks alone", x.text(2, -1), 0);

        e.section("Promise 3");
        e.tells("The tape has its first n bytes alone: n.");
        x = new IceStreet();
        x.feed(0x6461793b, 0x78000000, 0, 0, 0);
        e.at("end 4", x.end(4), 4);
        e.at("the first ones are left", x.text(2, -1), 0);
        e.at("ACTS", x.act(0, -1, 0), 1);
        x.feed(0, 0, 0, 0, 0);
        e.at("none are left", x.end(0), 0);
        e.at("an empty text", x.text(2, -1), 1);

        e.says("NONE if it has not so many");
        x.feed(0, 0, 0, 0, 0);
        e.at("as many as it has", x.end(20), 20);
        e.beyond("one more", x.end(21), -1);
        e.at("one less", x.end(19), 19);
        e.beyond("as many as it had", x.end(20), -1);
        e.beyond("far more", x.end(Integer.MAX_VALUE), -1);

        e.says("or n is below 0.");
        e.at("0", x.end(0), 0);
        e.beyond("-1", x.end(-1), -1);
        e.beyond("far below", x.end(Integer.MIN_VALUE), -1);
        x.feed(0, 0, 0, 0, 0);
        e.beyond("-1", x.end(-1), -1);
        e.at("nothing is cut", x.end(20), 20);
    }

    private void text() {
        e.section("Promise 4");
        e.tells("The tape is taken (and is empty then) as a text of a sort, a further one (at NONE)");
        IceStreet x = new IceStreet();
        e.at("a further one", Check.tell(x, 0, -1, "all 7;"), 0);
        e.at("empty then", x.end(1), -1);
        e.at("a further one", Check.tell(x, 0, -1, "all 8;"), 1);
        e.at("the first one", x.cell(0, 0, 0), 7);
        e.at("the second one", x.cell(1, 0, 0), 8);
        e.at("a LAW", Check.tell(x, 1, -1, "rent 7;"), 0);
        e.at("RENT", x.law(0, 3), 7);
        e.at("a PLAN", Check.tell(x, 2, -1, "day;"), 0);
        e.at("ACTS", x.act(0, -1, 0), 1);
        e.at("a text with a FAULT", Check.tell(x, 2, -1, "day"), -1);
        e.at("empty behind it, too", x.end(1), -1);
        nothingIsLeft(";");
        nothingIsLeft("");

        e.says("or in the place of one: its number.");
        e.at("in the place of the second", Check.tell(x, 0, 1, "bear 9;"), 1);
        e.at("BEAR", x.lake(1, 2), 9);
        e.at("all is as at first else", x.cell(1, 0, 0), 20);
        e.at("the first one stays", x.cell(0, 0, 0), 7);
        e.at("how many", x.count(0), 2);
        e.at("in the place of the first", Check.tell(x, 0, 0, "bear 8;"), 0);
        e.at("BEAR", x.lake(0, 2), 8);
        e.beyond("in the place of a third", Check.tell(x, 0, 2, "bear 7;"), -2);
        e.beyond("how many", x.count(0), 2);
        e.beyond("LAKE 2", x.lake(2, 2), -100);

        e.says("NONE: a FAULT.");
        e.beyond("a FAULT", Check.tell(x, 1, 0, "rent 9;apart 10;"), -1);
        e.beyond("what was told stays", x.law(0, 3), 7);
        e.beyond("a FAULT of a further one", Check.tell(x, 1, -1, "rent"), -1);
        e.beyond("how many", x.count(1), 1);
        e.at("no FAULT", Check.tell(x, 1, 0, "rent 9;apart 9;"), 0);
        e.at("told anew", x.law(0, 3), 9);

        noText();
    }

    /** A text behind another one, or behind one with a FAULT, tells of itself alone. */
    private void nothingIsLeft(String end) {
        int number = end.isEmpty() ? -1 : 0;
        IceStreet x = new IceStreet();
        String lake = "size 6 6;all 7;ice 1 8;snow 1 2;weak 1 3;crack 0 1;crack 34 35;frost 1 2 3;bear 5;shore 0 1 35;"
            + SIX.replace("shop 5", "shop 35") + "all 9" + end;
        String law = "least 9;apart 9;share 9;rent 9;" + "lane 1 0;".repeat(12) + "bar 0 35" + end;
        String plan = "sweep 3;".repeat(29) + "day" + end;
        e.at("a LAKE", Check.tell(x, 0, -1, lake), number);
        e.at("a LAW", Check.tell(x, 1, -1, law), number);
        e.at("a PLAN", Check.tell(x, 2, -1, plan), number);
        for (int sort = 0; sort < 3; sort++) {
            e.at("an empty text", x.text(sort, -1), number + 1);
        }
        IceStreet y = Check.street("", "", "");
        int k = number + 1;
        for (int what = -1; what < 100; what++) {
            e.at("LAKE, what " + what, x.lake(k, what), y.lake(0, what));
            e.at("LAW, what " + what, x.law(k, what), y.law(0, what));
        }
        for (int c = 0; c < 17; c++) {
            for (int what = 0; what < 5; what++) {
                e.at("CELL " + c + ", what " + what, x.cell(k, c, what), y.cell(0, c, what));
            }
        }
        e.at("SHOP 0", x.shop(k, 0, 0), -1);
        e.at("ACTS", x.act(k, -1, 0), 0);
        e.at("SHORT from 0", x.way(k, k, -1, 0, 40, 0, 1, 0, 0), 2);
        e.at("PARTS", x.state(k, k, -1, 0, 4), 1);
        e.at("as many as may be, once more", Check.tell(x, 0, k, SIX), k);
        e.at("as many as may be, once more", Check.tell(x, 1, k, "lane 1 0;".repeat(12)), k);
        e.at("as many as may be, once more", Check.tell(x, 2, k, "day;".repeat(30)), k);
    }

    private void noText() {
        e.says("-2: there is none such");
        IceStreet x = new IceStreet();
        Check.tell(x, 1, -1, "rent 3;");
        e.at("the one that is there", Check.tell(x, 1, 0, "rent 4;"), 0);
        for (int at : new int[] {1, 2, -2, Integer.MAX_VALUE, Integer.MIN_VALUE}) {
            Check.put(x, "rent 5;");
            e.beyond("at " + at, x.text(1, at), -2);
            e.beyond("the tape behind it", x.end(1), -1);
        }
        e.beyond("how many", x.count(1), 1);
        e.beyond("it stays", x.law(0, 3), 4);
        e.beyond("none of another sort", x.text(0, 0), -2);
        e.beyond("none of another sort", x.text(2, 0), -2);

        e.says("there are as many as may be");
        e.at("the second", x.text(1, -1), 1);
        e.beyond("a third", Check.tell(x, 1, -1, "rent 7;"), -2);
        e.beyond("how many", x.count(1), 2);
        e.at("in the place of the second", Check.tell(x, 1, 1, "rent 6;"), 1);
        e.at("RENT", x.law(1, 3), 6);

        e.says("or no such sort");
        e.at("sort 0", x.text(0, -1), 0);
        e.at("sort 2", x.text(2, -1), 0);
        e.beyond("sort 3", x.text(3, -1), -2);
        e.beyond("sort -1", x.text(-1, -1), -2);
        e.beyond("sort 3 at 0", x.text(3, 0), -2);
        e.beyond("sort far off", x.text(Integer.MAX_VALUE, 0), -2);
        e.beyond("sort far off", x.text(Integer.MIN_VALUE, -1), -2);

        e.says("(no text is read then, FAULT 0).");
        int[][] none = {{1, -1}, {1, 2}, {3, -1}, {0, 5}};
        for (int[] call : none) {
            e.at("a text with a FAULT", Check.tell(x, 1, 0, "x"), -1);
            e.at("its FAULT", x.fault(0), 1);
            Check.put(x, "x");
            e.beyond("no text", x.text(call[0], call[1]), -2);
            e.beyond("FAULT", x.fault(0), 0);
            e.beyond("its place", x.fault(1), -1);
        }
    }

    private void fault() {
        e.section("Promise 5");
        e.tells("Of the latest text()");
        IceStreet x = new IceStreet();
        Check.tell(x, 0, -1, "bear 0;");
        e.at("FAULT", x.fault(0), 2);
        Check.put(x, "all 9");
        e.at("a tape is no text yet", x.fault(0), 2);
        x.text(0, -1);
        e.at("FAULT of the next", x.fault(0), 1);
        e.at("its place", x.fault(1), 5);

        e.says("what 0: the FAULT, 0 without");
        e.beyond("a FAULT", x.fault(0), 1);
        x.text(0, -1);
        e.at("without", x.fault(0), 0);
        e.at("of a new object", new IceStreet().fault(0), 0);

        e.says("1: its place, NONE without.");
        e.at("without", x.fault(1), -1);
        e.at("of a new object", new IceStreet().fault(1), -1);
        Check.tell(x, 0, -1, "x");
        e.beyond("a place", x.fault(1), 0);

        e.says("NONE for another what.");
        e.at("what 1", x.fault(1), 0);
        e.beyond("what 2", x.fault(2), -1);
        e.beyond("what -1", x.fault(-1), -1);
        e.beyond("what far off", x.fault(Integer.MAX_VALUE), -1);
        e.beyond("what far off", x.fault(Integer.MIN_VALUE), -1);
    }

    private void told() {
        e.section("Promise 6");
        e.says("Of a LAKE, what 0: W, 1: H, 2: BEAR, 3: how many FROSTS, 4: SHOPS");
        IceStreet x = lake("size 5 3;bear 7;frost 3 -4 5;shop 1 1 1 1;shop 2 1 1 1;");
        int[] lake = {5, 3, 7, 3, 2};
        for (int what = 0; what < lake.length; what++) {
            e.at("what " + what, x.lake(0, what), lake[what]);
        }
        e.beyond("what 5", x.lake(0, 5), -100);
        e.says("20 + k: number k of FROSTS.");
        e.at("number 0", x.lake(0, 20), 3);
        e.at("number 1", x.lake(0, 21), -4);
        e.at("number 2", x.lake(0, 22), 5);
        e.beyond("number 3", x.lake(0, 23), -100);
        e.beyond("number -1", x.lake(0, 19), -100);
        e.says("-100: there is none such");
        e.at("LAKE 0", x.lake(0, 0), 5);
        e.beyond("LAKE 1", x.lake(1, 0), -100);
        e.beyond("LAKE -1", x.lake(-1, 0), -100);
        e.beyond("LAKE far off", x.lake(Integer.MAX_VALUE, 0), -100);
        e.says("or for another what.");
        e.at("what 4", x.lake(0, 4), 2);
        for (int what : new int[] {-1, 5, 19, 23, 32, 10, Integer.MIN_VALUE, Integer.MAX_VALUE}) {
            e.beyond("what " + what, x.lake(0, what), -100);
        }
        IceStreet full = lake(TWELVE_FROSTS + ";");
        e.at("what 31 of twelve", full.lake(0, 31), 2);
        e.beyond("what 32 of twelve", full.lake(0, 32), -100);
        toldOfCells();
        toldOfShops();
        toldOfLaws();
        toldOfActs();
    }

    private void toldOfCells() {
        e.section("Promise 7");
        e.tells("Of a CELL at first,");
        IceStreet x = Check.street("size 3 2;all 30;frost 9;snow 4 3;weak 4 2;shore 4;crack 4 1;crack 3 4;crack 4 5;"
            + "shop 0 99 9 1;", "", "day;sweep 4;");
        e.at("THICK, whatever a PLAN does", x.cell(0, 4, 0), 30);
        e.at("SNOW", x.cell(0, 4, 1), 3);
        e.at("THICK where a SHOP falls", lake("all 1;shop 0 9 9 9;").cell(0, 0, 0), 1);
        e.says("what 0: how THICK, 1: SNOW, 2: WEAK, 3: 1 if it is of the SHORE, 4: how many CRACKS it has.");
        int[][] told = {{30, 0, 0, 0, 0}, {30, 0, 0, 0, 1}, {30, 0, 0, 0, 0}, {30, 0, 0, 0, 1}, {30, 3, 2, 1, 3},
            {30, 0, 0, 0, 1}};
        for (int c = 0; c < 6; c++) {
            for (int what = 0; what < 5; what++) {
                e.at("CELL " + c + " what " + what, x.cell(0, c, what), told[c][what]);
            }
            e.beyond("CELL " + c + " what 5", x.cell(0, c, 5), -1);
        }
        e.at("four CRACKS", lake("crack 5 1;crack 5 4;crack 5 6;crack 5 9;").cell(0, 5, 4), 4);
        e.says("NONE: there is none such (of either)");
        e.at("CELL 5", x.cell(0, 5, 0), 30);
        e.beyond("CELL 6", x.cell(0, 6, 0), -1);
        e.beyond("CELL -1", x.cell(0, -1, 0), -1);
        e.beyond("CELL far off", x.cell(0, Integer.MAX_VALUE, 0), -1);
        e.beyond("LAKE 1", x.cell(1, 0, 0), -1);
        e.beyond("LAKE -1", x.cell(-1, 0, 0), -1);
        e.says("or for another what.");
        e.at("what 4", x.cell(0, 5, 4), 1);
        e.beyond("what 5", x.cell(0, 5, 5), -1);
        e.beyond("what -1", x.cell(0, 5, -1), -1);
        e.beyond("what far off", x.cell(0, 5, Integer.MIN_VALUE), -1);
    }

    private void toldOfShops() {
        e.section("Promise 8");
        e.says("Of a SHOP, what 0: CELL, 1: WEIGHT, 2: STOVE, 3: WORTH.");
        IceStreet x = lake("shop 7 8 9 10;shop 3 4 5 6;");
        for (int what = 0; what < 4; what++) {
            e.at("SHOP 0 what " + what, x.shop(0, 0, what), 7 + what);
            e.at("SHOP 1 what " + what, x.shop(0, 1, what), 3 + what);
        }
        e.at("CELL of one that falls", lake("all 1;shop 7 8 9 10;").shop(0, 0, 0), 7);
        e.beyond("what 4", x.shop(0, 0, 4), -1);
        e.says("NONE: there is none such (of either)");
        e.at("SHOP 1", x.shop(0, 1, 0), 3);
        e.beyond("SHOP 2", x.shop(0, 2, 0), -1);
        e.beyond("SHOP -1", x.shop(0, -1, 0), -1);
        e.beyond("SHOP far off", x.shop(0, Integer.MAX_VALUE, 0), -1);
        e.beyond("LAKE 1", x.shop(1, 0, 0), -1);
        e.beyond("LAKE -1", x.shop(-1, 0, 0), -1);
        e.says("or for another what.");
        e.at("what 3", x.shop(0, 1, 3), 6);
        e.beyond("what 4", x.shop(0, 1, 4), -1);
        e.beyond("what -1", x.shop(0, 1, -1), -1);
    }

    private void toldOfLaws() {
        e.section("Promise 9");
        e.says("Of a LAW, what 0: LEAST, 1: APART, 2: SHARE, 3: RENT, 4: how many LANES");
        IceStreet x = law("least 11;apart 2;share 3;rent 14;lane 5 6;lane 35 8;bar 0 35 7;");
        int[] told = {11, 2, 3, 14, 2};
        for (int what = 0; what < told.length; what++) {
            e.at("what " + what, x.law(0, what), told[what]);
        }
        e.beyond("what 5", x.law(0, 5), -1);
        e.says("20 + k, 40 + k: from, to which CELL LANE k is");
        e.at("from 0", x.law(0, 20), 5);
        e.at("to 0", x.law(0, 40), 6);
        e.at("from 1", x.law(0, 21), 35);
        e.at("to 1", x.law(0, 41), 8);
        for (int what : new int[] {19, 22, 31, 32, 39, 42, 51, 52}) {
            e.beyond("what " + what, x.law(0, what), -1);
        }
        e.says("60 + c: 1 if CELL c is BARRED, else 0.");
        for (int c = 0; c < 36; c++) {
            e.at("BARRED " + c, x.law(0, 60 + c), c == 0 || c == 7 || c == 35 ? 1 : 0);
        }
        e.beyond("CELL -1", x.law(0, 59), -1);
        e.beyond("CELL 36", x.law(0, 96), -1);
        e.says("NONE: there is none such");
        e.at("LAW 0", x.law(0, 0), 11);
        e.beyond("LAW 1", x.law(1, 0), -1);
        e.beyond("LAW -1", x.law(-1, 0), -1);
        e.says("or for another what.");
        e.at("what 4", x.law(0, 4), 2);
        for (int what : new int[] {-1, 5, 18, 38, 58, 97, 124, Integer.MIN_VALUE, Integer.MAX_VALUE}) {
            e.beyond("what " + what, x.law(0, what), -1);
        }
    }

    private void toldOfActs() {
        e.section("Promise 10");
        e.says("Of a PLAN how many ACTS (act NONE, what 0);");
        IceStreet x = Check.street("", "", "day;move 5 4;off 3;go 7 8 9;sweep 2;");
        e.at("ACTS", x.act(0, -1, 0), 5);
        e.at("none", Check.street("", "", "").act(0, -1, 0), 0);
        e.beyond("ACTS, what 1", x.act(0, -1, 1), -2);
        e.beyond("ACTS, what -1", x.act(0, -1, -1), -2);
        e.says("of an ACT, what 0: 0 day, 1 move, 2 off, 3 go, 4 sweep, 1, 2, 3: its numbers as told (NONE without).");
        int[][] acts = {{0, -1, -1, -1}, {1, 5, 4, -1}, {2, 3, -1, -1}, {3, 7, 8, 9}, {4, 2, -1, -1}};
        for (int i = 0; i < acts.length; i++) {
            for (int what = 0; what < 4; what++) {
                e.at("ACT " + i + " what " + what, x.act(0, i, what), acts[i][what]);
            }
            e.beyond("ACT " + i + " what 4", x.act(0, i, 4), -2);
        }
        e.at("as told, though there is no such SHOP", Check.street("size 2 2;", "", "move 5 35;").act(0, 0, 2), 35);
        e.says("-2: there is none such (of any)");
        e.at("ACT 4", x.act(0, 4, 0), 4);
        e.beyond("ACT 5", x.act(0, 5, 0), -2);
        e.beyond("ACT -2", x.act(0, -2, 0), -2);
        e.beyond("PLAN 1", x.act(1, 0, 0), -2);
        e.beyond("PLAN -1", x.act(-1, 0, 0), -2);
        e.beyond("ACTS of PLAN 1", x.act(1, -1, 0), -2);
        e.beyond("ACTS of PLAN -1", x.act(-1, -1, 0), -2);
        e.beyond("ACT 0 of none", Check.street("", "", "").act(0, 0, 0), -2);
        e.says("or for another what.");
        e.at("what 3", x.act(0, 3, 3), 9);
        e.beyond("what 4", x.act(0, 3, 4), -2);
        e.beyond("what -1", x.act(0, 3, -1), -2);
        e.beyond("what far off", x.act(0, 3, Integer.MAX_VALUE), -2);
    }

    private void countsAndImages() {
        e.section("Promise 37");
        e.says("How many there are of a sort.");
        IceStreet x = new IceStreet();
        e.at("none yet", x.count(0), 0);
        x.text(0, -1);
        x.text(2, -1);
        x.text(2, -1);
        x.text(2, -1);
        e.at("LAKES", x.count(0), 1);
        e.at("LAWS", x.count(1), 0);
        e.at("PLANS", x.count(2), 3);
        x.text(2, -1);
        x.text(0, 0);
        e.beyond("PLANS", x.count(2), 3);
        e.beyond("LAKES", x.count(0), 1);
        e.says("-2 for another one.");
        e.at("sort 2", x.count(2), 3);
        e.beyond("sort 3", x.count(3), -2);
        e.beyond("sort -1", x.count(-1), -2);
        e.beyond("sort far off", x.count(Integer.MAX_VALUE), -2);
        e.beyond("sort far off", x.count(Integer.MIN_VALUE), -2);
        imaged();
    }

    private void imaged() {
        e.section("Promise 38");
        e.says("Image k (0 .. 2) is all that is told (the tape, the FAULT, too), as it is now: true;");
        IceStreet x = new IceStreet();
        Check.tell(x, 0, -1, "all 7;");
        Check.tell(x, 1, -1, "rent 7;");
        Check.tell(x, 2, -1, "day;");
        Check.tell(x, 2, -1, "bear 7;");
        Check.put(x, "bear 8;");
        e.at("image 0", x.image(0), true);
        e.at("nothing is changed", x.end(7), 7);
        e.at("the tape", x.text(0, -1), 1);
        e.at("image 2", x.image(2), true);
        Check.tell(x, 0, 0, "all 9;");
        e.at("image 1", x.image(1), true);
        e.beyond("image 3", x.image(3), false);
        e.at("again 0", x.again(0), true);
        e.at("LAKES", x.count(0), 1);
        e.at("THICK", x.cell(0, 0, 0), 7);
        e.at("RENT", x.law(0, 3), 7);
        e.at("ACTS", x.act(0, -1, 0), 1);
        e.at("FAULT", x.fault(0), 1);
        e.at("its place", x.fault(1), 0);
        e.beyond("more than the tape", x.end(8), -1);
        e.at("the tape", x.text(0, -1), 1);
        e.at("BEAR", x.lake(1, 2), 8);
        e.at("taken anew", x.image(0), true);
        e.at("again 2", x.again(2), true);
        e.at("again 0, taken anew", x.again(0), true);
        e.at("LAKES", x.count(0), 2);
        imagedAll();
        e.says("false for another k.");
        e.at("image 2", x.image(2), true);
        for (int k : new int[] {-1, 3, 4, Integer.MIN_VALUE, Integer.MAX_VALUE}) {
            e.beyond("image " + k, x.image(k), false);
            e.beyond("again " + k, x.again(k), false);
        }
        taken();
    }

    /** As many of all sorts as may be, each told anew behind the image. */
    private void imagedAll() {
        IceStreet x = new IceStreet();
        int[] most = {2, 2, 3};
        String[] lines = {"bear ", "rent ", "sweep "};
        for (int sort = 0; sort < 3; sort++) {
            for (int k = 0; k < most[sort]; k++) {
                Check.tell(x, sort, -1, lines[sort] + (k + 1) + ";");
            }
        }
        e.at("image 0", x.image(0), true);
        for (int sort = 0; sort < 3; sort++) {
            for (int k = 0; k < most[sort]; k++) {
                Check.tell(x, sort, k, lines[sort] + (k + 11) + ";");
            }
        }
        e.at("image 1", x.image(1), true);
        for (int image = 0; image < 2; image++) {
            e.at("again " + image, x.again(image), true);
            for (int sort = 0; sort < 3; sort++) {
                e.at("how many", x.count(sort), most[sort]);
            }
            for (int k = 0; k < 3; k++) {
                if (k < 2) {
                    e.at("BEAR of " + k, x.lake(k, 2), 10 * image + k + 1);
                    e.at("RENT of " + k, x.law(k, 3), 10 * image + k + 1);
                }
                e.at("CELL of " + k, x.act(k, 0, 1), 10 * image + k + 1);
            }
        }
        e.at("again 0", x.again(0), true);
        e.at("BEAR of 1", x.lake(1, 2), 2);
    }

    private void taken() {
        e.section("Promise 39");
        e.tells("All that is as image k has it (other images stay): true;");
        IceStreet x = new IceStreet();
        x.image(1);
        Check.tell(x, 0, -1, "all 7;");
        x.image(0);
        Check.tell(x, 0, 0, "all 8;");
        x.image(2);
        e.at("again 0", x.again(0), true);
        e.at("THICK", x.cell(0, 0, 0), 7);
        Check.tell(x, 0, 0, "all 9;");
        e.at("again 2", x.again(2), true);
        e.at("THICK", x.cell(0, 0, 0), 8);
        e.at("again 1", x.again(1), true);
        e.at("LAKES", x.count(0), 0);
        e.at("LAKE 0", x.lake(0, 0), -100);
        e.at("again 0 stayed", x.again(0), true);
        e.at("THICK", x.cell(0, 0, 0), 7);
        e.at("again 0 twice", x.again(0), true);
        e.at("THICK", x.cell(0, 0, 0), 7);
        e.says("false if there is none such.");
        x = new IceStreet();
        x.image(0);
        e.at("again 0", x.again(0), true);
        e.beyond("again 1", x.again(1), false);
        e.beyond("again 2", x.again(2), false);
        e.beyond("again 3", x.again(3), false);
        e.beyond("again -1", x.again(-1), false);
        x.text(0, -1);
        e.beyond("again 1", x.again(1), false);
        e.beyond("nothing is changed", x.count(0), 1);
    }
}
