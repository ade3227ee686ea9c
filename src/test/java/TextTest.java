/** Promises 1 to 5 and 37 to 39: the tape, texts and their FAULTS, counts, images. */
public final class TextTest {
    private static final Check C = new Check();

    public static void main(String[] args) {
        newObject();
        tape();
        tapeBehindNoText();
        tokens();
        numbersThatCannotBe();
        tooMany();
        whichFaultIsTold();
        cellsThatAreNotThere();
        places();
        images();
        C.finish();
    }

    private static void newObject() {
        IceStreet x = new IceStreet();
        for (int sort = 0; sort < 3; sort++) {
            C.due("count of new", x.count(sort), 0);
            C.due("again of new", x.again(sort), false);
        }
        C.due("count(3)", x.count(3), -2);
        C.due("count(-1)", x.count(-1), -2);
        C.due("fault(0) of new", x.fault(0), 0);
        C.due("fault(1) of new", x.fault(1), -1);
        C.due("fault(2)", x.fault(2), -1);
        C.due("fault(-1)", x.fault(-1), -1);
        C.due("lake of new", x.lake(0, 0), -100);
        C.due("end of an empty tape", x.end(0), 0);
        C.due("end beyond an empty tape", x.end(1), -1);
        C.due("NONE", IceStreet.NONE, -1);
    }

    private static void tape() {
        IceStreet x = new IceStreet();
        for (int k = 1; k <= 30; k++) {
            C.due("feed " + k, x.feed(0, 0, 0, 0, 0), 20 * k);
        }
        C.due("feed beyond 600", x.feed(0, 0, 0, 0, 0), -1);
        C.due("end(601)", x.end(601), -1);
        C.due("end(600)", x.end(600), 600);
        C.due("end(581)", x.end(581), 581);
        C.due("feed to 601", x.feed(0, 0, 0, 0, 0), -1);
        C.due("end(580)", x.end(580), 580);
        C.due("feed to 600", x.feed(0, 0, 0, 0, 0), 600);
        C.due("end(-1)", x.end(-1), -1);
        C.due("end(4)", x.end(4), 4);
        C.due("end(5) behind end(4)", x.end(5), -1);
        C.due("end(0)", x.end(0), 0);
        // "day;" and "off ", "3; d" and "ay;": the highest byte first, number by number.
        C.due("feed", x.feed(0x6461793b, 0x6f666620, 0x333b2064, 0x61793b00, 0), 20);
        C.due("end(15)", x.end(15), 15);
        C.due("text", x.text(2, -1), 0);
        C.due("acts", x.act(0, -1, 0), 3);
        C.due("second act", x.act(0, 1, 0), 2);
        C.due("its shop", x.act(0, 1, 1), 3);
        C.due("the tape is empty", x.feed(-1, -1, -1, -1, -1), 20);
        C.due("no token", x.text(0, -1), -1);
        C.due("its fault", x.fault(0), 1);
        C.due("its place", x.fault(1), 0);
        C.due("the tape is empty behind a fault", x.feed(0, 0, 0, 0, 0), 20);
    }

    /** The tape is taken by each text(), also by one that reads none. */
    private static void tapeBehindNoText() {
        int[][] noText = {{0, 0}, {0, -2}, {1, 5}, {2, 3}, {3, -1}, {-1, -1}, {3, 0}};
        for (int[] call : noText) {
            IceStreet x = new IceStreet();
            x.feed(0, 0, 0, 0, 0);
            String named = "text(" + call[0] + ", " + call[1] + ")";
            C.due(named, x.text(call[0], call[1]), -2);
            C.due("end(1) behind " + named, x.end(1), -1);
            C.due("feed behind " + named, x.feed(0, 0, 0, 0, 0), 20);
        }
        for (int sort = 0; sort < 3; sort++) {
            IceStreet x = new IceStreet();
            for (int k = 0; k < (sort == 2 ? 3 : 2); k++) {
                C.told(x, sort, "", k);
            }
            Check.put(x, "no text");
            C.due("image", x.image(0), true);
            C.due("one more than may be", x.text(sort, -1), -2);
            C.due("its tape", x.end(1), -1);
            C.due("again", x.again(0), true);
            C.due("the tape of the image", x.end(7), 7);
        }
    }

    private static void tokens() {
        C.faulty(0, "", 0, -1);
        C.faulty(1, " \n ", 0, -1);
        C.faulty(2, "", 0, -1);
        C.faulty(0, "all20;size3 3;ice0 5;frost-1-2 3;", 0, -1);
        C.faulty(0, "\nall\n \n9 ; ", 0, -1);
        C.faulty(0, "frost - 5;", 0, -1);
        C.faulty(0, "all 00;", 0, -1);
        C.faulty(0, "all\t20;", 1, 3);
        C.faulty(0, "all 20;\r", 1, 7);
        C.faulty(0, "All 20;", 1, 0);
        C.faulty(0, "all 020;", 1, 4);
        C.faulty(0, "allx 20;", 1, 0);
        C.faulty(0, "al l 20;", 1, 0);
        C.faulty(0, "ell 20;", 1, 0);
        C.faulty(0, "al", 1, 0);
        C.faulty(0, "all 20", 1, 6);
        C.faulty(0, "all 20  ", 1, 8);
        C.faulty(0, "all", 1, 3);
        C.faulty(0, "all 20 20;", 1, 7);
        C.faulty(0, "all 20;;", 1, 7);
        C.faulty(0, "all -2;", 1, 4);
        C.faulty(0, "all 2 \u00e9;", 1, 6);
        C.faulty(0, "size 3;", 1, 6);
        C.faulty(0, "frost;", 1, 5);
        C.faulty(0, "frost - -1;", 1, 8);
        C.faulty(0, "frost 1 -;", 1, 9);
        C.faulty(0, "shore 1 -2;", 1, 8);
        C.faulty(0, "shop 1 2 3;", 1, 10);
        C.faulty(0, "shop 1 2 3 4 5;", 1, 13);
        C.faulty(0, "crack 1;", 1, 7);
        C.faulty(0, "least 1;", 1, 0);
        C.faulty(0, "day;", 1, 0);
        C.faulty(1, "all 20;", 1, 0);
        C.faulty(1, "least;", 1, 5);
        C.faulty(1, "bar;", 1, 3);
        C.faulty(1, "lane 1 2 3;", 1, 9);
        C.faulty(2, "bar 1;", 1, 0);
        C.faulty(2, "day 1;", 1, 4);
        C.faulty(2, "move 1;", 1, 6);
        C.faulty(2, "off 1 2;", 1, 6);
        C.faulty(2, "go 1 2;", 1, 6);
        C.faulty(2, "sweep 1 2;", 1, 8);
        C.faulty(2, "day day;", 1, 4);
        C.faulty(2, "5;", 1, 0);
        C.faulty(2, "-", 1, 0);
    }

    private static void numbersThatCannotBe() {
        C.faulty(0, "size 2 6;", 0, -1);
        C.faulty(0, "size 6 2;", 0, -1);
        C.faulty(0, "size 1 4;", 2, 5);
        C.faulty(0, "size 4 1;", 2, 7);
        C.faulty(0, "size 7 9;", 2, 5);
        C.faulty(0, "all 99;all 0;", 0, -1);
        C.faulty(0, "size 6 6;ice 35 99;ice 0 0;", 0, -1);
        C.faulty(0, "size 6 6;ice 36 9;", 2, 13);
        C.faulty(0, "snow 0 9;weak 0 9;", 0, -1);
        C.faulty(0, "snow 0 10;", 2, 7);
        C.faulty(0, "weak 0 10;", 2, 7);
        C.faulty(0, "snow 36 1;", 2, 5);
        C.faulty(0, "weak 99 1;", 2, 5);
        C.faulty(0, "crack 36 37;", 2, 6);
        C.faulty(0, "crack 3 36;", 2, 8);
        C.faulty(0, "crack 3 3;", 2, 8);
        C.faulty(0, "crack 3 03;", 2, 8);
        C.faulty(0, "frost 20 -20;", 0, -1);
        C.faulty(0, "frost 20 21;", 2, 9);
        // The NUMBER can't be, so its place is told, not that of the -.
        C.faulty(0, "frost -21;", 2, 7);
        C.faulty(0, "bear 1;bear 99;", 0, -1);
        C.faulty(0, "bear 0;", 2, 5);
        C.faulty(0, "shore 1 2 36;", 2, 10);
        C.faulty(0, "shop 0 1 0 0;shop 1 99 9 99;", 0, -1);
        C.faulty(0, "shop 36 1 0 0;", 2, 5);
        C.faulty(0, "shop 0 0 0 0;", 2, 7);
        C.faulty(0, "shop 0 1 10 0;", 2, 9);
        C.faulty(1, "least 99;apart 9;share 10;rent 99;least 0;apart 0;share 0;rent 0;", 0, -1);
        C.faulty(1, "apart 10;", 2, 6);
        C.faulty(1, "share 11;", 2, 6);
        C.faulty(1, "lane 35 0;bar 35 0;", 0, -1);
        C.faulty(1, "lane 36 0;", 2, 5);
        C.faulty(1, "lane 0 36;", 2, 7);
        C.faulty(1, "lane 5 5;", 2, 7);
        C.faulty(1, "bar 0 1 36;", 2, 8);
        C.faulty(2, "move 5 35;off 5;go 99 35 0;go 1 0 35;sweep 35;", 0, -1);
        C.faulty(2, "move 6 0;", 2, 5);
        C.faulty(2, "move 0 36;", 2, 7);
        C.faulty(2, "off 6;", 2, 4);
        C.faulty(2, "go 0 0 1;", 2, 3);
        C.faulty(2, "go 1 36 1;", 2, 5);
        C.faulty(2, "go 1 1 36;", 2, 7);
        C.faulty(2, "go 1 1 1;", 2, 7);
        C.faulty(2, "go 1 2 1;", 0, -1);
        C.faulty(2, "sweep 36;", 2, 6);
    }

    private static void tooMany() {
        C.faulty(0, "frost 1 2 3 4 5 6 7 8 9 10 11 12;", 0, -1);
        C.faulty(0, "frost 1 2 3 4 5 6 7 8 9 0 1 2 3 4;", 3, 30);
        C.faulty(0, "frost 1 2 3 4 5 6 7 8 9 0 1 2 - 3;", 3, 30);
        // Of one place the least, of several the first.
        C.faulty(0, "frost 1 2 3 4 5 6 7 8 9 0 1 2 33;", 2, 30);
        C.faulty(0, "frost 1 2 3 4 5 6 7 8 9 0 1 2 -33;", 3, 30);
        C.faulty(0, "frost 1 2 3 4 5 6 7;frost 1 2 3 4 5 6 7;", 0, -1);
        String six = "shop 0 1 1 1;shop 1 1 1 1;shop 2 1 1 1;shop 3 1 1 1;shop 4 1 1 1;shop 5 1 1 1;";
        C.faulty(0, six, 0, -1);
        C.faulty(0, six + " shop 6 1 1 1;", 3, 79);
        C.faulty(0, six + " shop 6 0 1 1;", 3, 79);
        String twelve = "lane 1 2;".repeat(12);
        C.faulty(1, twelve, 0, -1);
        C.faulty(1, twelve + "lane 1 2;", 3, 108);
        String thirty = "day;".repeat(30);
        C.faulty(2, thirty, 0, -1);
        C.faulty(2, thirty + "\nsweep 1;", 3, 121);
        C.faulty(2, "off 1;".repeat(15) + "go 1 2 3;".repeat(16), 3, 225);
        // A line with a NUMBER that can't be tells its shop, lane, ACT all the same, so these are too many, too.
        C.faulty(0, "shop 0 1 1 1;" + six.replace("shop 5 1", "shop 5 0"), 3, 78);
        C.faulty(1, twelve + "lane 1 1;", 3, 108);
        C.faulty(2, thirty + "off 6;", 3, 120);
    }

    private static void whichFaultIsTold() {
        // 1 before all others, wherever it is.
        C.faulty(0, "size 9 9;bear 0;x", 1, 16);
        C.faulty(2, "day;".repeat(31) + "day", 1, 127);
        C.faulty(0, "ice 16 5;all 5", 1, 14);
        // The first by place.
        C.faulty(0, "bear 0;size 9 9;", 2, 5);
        C.faulty(0, "frost 1 2 3 4 5 6 7 8 9 0 1 2 3;bear 0;", 3, 30);
        C.faulty(0, "bear 0;frost 1 2 3 4 5 6 7 8 9 0 1 2 3;", 2, 5);
        // 4 behind these.
        C.faulty(0, "ice 16 5;bear 0;", 2, 14);
        C.faulty(0, "shop 0 1 1 1;".repeat(7), 3, 78);
    }

    private static void cellsThatAreNotThere() {
        C.faulty(0, "ice 15 1;snow 15 1;weak 15 1;shore 15;shop 15 1 1 1;crack 14 15;", 0, -1);
        C.faulty(0, "ice 16 1;", 4, 9);
        C.faulty(0, "snow 16 1; ", 4, 11);
        C.faulty(0, "weak 16 1;", 4, 10);
        C.faulty(0, "shore 1 16;", 4, 11);
        C.faulty(0, "shop 16 1 1 1;", 4, 14);
        C.faulty(0, "crack 15 16;", 4, 12);
        C.faulty(0, "crack 16 20;", 4, 12);
        // As the LAKE is behind its whole text.
        C.faulty(0, "ice 35 1;size 6 6;", 0, -1);
        C.faulty(0, "ice 15 1;size 3 5;", 4, 18);
        C.faulty(0, "ice 14 1;size 3 5;", 0, -1);
        C.faulty(0, "crack 0 3;size 3 3;", 0, -1);
        C.faulty(0, "crack 0 3;", 4, 10);
        C.faulty(0, "crack 3 4;", 4, 10);
        C.faulty(0, "crack 0 5;", 4, 10);
        C.faulty(0, "crack 4 0;crack 0 1;", 0, -1);
        C.faulty(0, "shop 3 1 1 1;shop 4 1 1 1;shop 3 2 2 2;", 4, 39);
        // What a LAW or a PLAN tells of CELLS may be of any LAKE.
        C.faulty(1, "lane 0 35;bar 35;", 0, -1);
        C.faulty(2, "go 9 35 34;move 5 35;", 0, -1);
    }

    private static void places() {
        IceStreet x = new IceStreet();
        C.told(x, 0, "all 1;", 0);
        C.told(x, 0, "all 2;", 1);
        C.told(x, 1, "rent 1;", 0);
        C.told(x, 1, "rent 2;", 1);
        for (int k = 0; k < 3; k++) {
            C.told(x, 2, "sweep " + k + ";", k);
        }
        C.due("lakes", x.count(0), 2);
        C.due("laws", x.count(1), 2);
        C.due("plans", x.count(2), 3);
        C.due("a fault", Check.tell(x, 0, 0, "all"), -1);
        C.due("fault", x.fault(0), 1);
        C.due("a third lake", Check.tell(x, 0, -1, "all 3"), -2);
        C.due("fault behind it", x.fault(0), 0);
        C.due("place behind it", x.fault(1), -1);
        C.due("a third law", x.text(1, -1), -2);
        C.due("a fourth plan", x.text(2, -1), -2);
        C.due("no such lake", x.text(0, 2), -2);
        C.due("no such lake", x.text(0, -2), -2);
        C.due("no such plan", x.text(2, 3), -2);
        C.due("no such sort", x.text(3, 0), -2);
        C.due("no such sort", x.text(-1, -1), -2);
        C.due("in the place of one", Check.tell(x, 0, 1, "all 3;"), 1);
        C.due("told anew", x.cell(1, 0, 0), 3);
        C.due("the other one", x.cell(0, 0, 0), 1);
        C.due("lakes yet", x.count(0), 2);
        C.due("empty in the place of one", x.text(0, 1), 1);
        C.due("as at first", x.cell(1, 0, 0), 20);
        C.due("a fault in the place of one", Check.tell(x, 1, 1, "rent 5;apart 77;"), -1);
        C.due("it stays", x.law(1, 3), 2);
        C.due("in the place of a plan", Check.tell(x, 2, 2, "day;"), 2);
        C.due("its act", x.act(2, 0, 0), 0);
        C.due("no second act", x.act(2, 1, 0), -2);
    }

    private static void images() {
        IceStreet x = new IceStreet();
        C.due("image(-1)", x.image(-1), false);
        C.due("image(3)", x.image(3), false);
        C.due("again(0)", x.again(0), false);
        C.due("image(1) of nothing", x.image(1), true);
        C.told(x, 0, "size 2 3;all 7;frost 1 2 3;shop 1 2 3 4;crack 0 1;shore 2;", 0);
        C.told(x, 1, "least 3;lane 4 5;bar 6;", 0);
        C.told(x, 2, "day;off 1;", 0);
        C.due("a fault", Check.tell(x, 2, -1, "day"), -1);
        Check.put(x, "day;");
        C.due("image(0)", x.image(0), true);
        C.due("the tape goes on", x.text(2, -1), 1);
        C.due("told anew", Check.tell(x, 0, 0, "all 9;"), 0);
        C.due("told anew", Check.tell(x, 1, 0, "rent 9;"), 0);
        C.due("told anew", Check.tell(x, 2, 0, "sweep 9;"), 0);
        C.due("image(2)", x.image(2), true);
        C.due("again(0)", x.again(0), true);
        C.due("w", x.lake(0, 0), 2);
        C.due("thick", x.cell(0, 0, 0), 7);
        C.due("frosts", x.lake(0, 3), 3);
        C.due("cracks", x.cell(0, 1, 4), 1);
        C.due("shore", x.cell(0, 2, 3), 1);
        C.due("worth", x.shop(0, 0, 3), 4);
        C.due("least", x.law(0, 0), 3);
        C.due("lane", x.law(0, 40), 5);
        C.due("barred", x.law(0, 66), 1);
        C.due("acts", x.act(0, -1, 0), 2);
        C.due("plans", x.count(2), 1);
        C.due("fault", x.fault(0), 1);
        C.due("place", x.fault(1), 3);
        C.due("tape", x.end(5), -1);
        C.due("tape", x.text(2, -1), 1);
        C.due("again(0) twice", x.again(0), true);
        C.due("plans", x.count(2), 1);
        C.due("again(2)", x.again(2), true);
        C.due("thick of it", x.cell(0, 0, 0), 9);
        C.due("no frosts of it", x.lake(0, 3), 1);
        C.due("no lane of it", x.law(0, 4), 0);
        C.due("plans of it", x.count(2), 2);
        C.due("tape of it", x.end(1), -1);
        C.due("again(1)", x.again(1), true);
        C.due("lakes of nothing", x.count(0), 0);
        C.due("lake of nothing", x.lake(0, 0), -100);
        C.due("fault of nothing", x.fault(0), 0);
        C.due("again(3)", x.again(3), false);
        C.due("again(-1)", x.again(-1), false);
        C.due("image(0) anew", x.image(0), true);
        C.due("again(2)", x.again(2), true);
        C.due("again(0)", x.again(0), true);
        C.due("lakes of it", x.count(0), 0);
    }
}
