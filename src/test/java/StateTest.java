/** Promises 11 to 13, 18 and 36: STOP, STATES, what CELLS bear, PARTS, SPREAD. */
public final class StateTest {
    private static final Check C = new Check();

    public static void main(String[] args) {
        noSuchStates();
        loadsAndFalls();
        days();
        moves();
        offs();
        rides();
        parts();
        stoves();
        C.finish();
    }

    private static void noSuchStates() {
        IceStreet x = Check.street("", "", "day;sweep 16;day;");
        C.due("stop", x.stop(0, 0, 0), 1);
        C.due("stop of lake 1", x.stop(1, 0, 0), -1);
        C.due("stop of law 1", x.stop(0, 1, 0), -1);
        C.due("stop of plan 1", x.stop(0, 0, 1), -1);
        C.due("stop of plan NONE", x.stop(0, 0, -1), -1);
        C.due("behind one act", x.state(0, 0, 0, 1, 0), 1);
        C.due("behind none", x.state(0, 0, 0, 0, 0), 0);
        C.due("beyond stop", x.state(0, 0, 0, 2, 0), -100);
        C.due("n -1", x.state(0, 0, 0, -1, 0), -100);
        C.due("no plan", x.state(0, 0, -1, 0, 0), 0);
        C.due("no plan, n 1", x.state(0, 0, -1, 1, 0), -100);
        C.due("plan -2", x.state(0, 0, -2, 0, 0), -100);
        C.due("plan 1", x.state(0, 0, 1, 0, 0), -100);
        C.due("lake 1", x.state(1, 0, 0, 0, 0), -100);
        C.due("law 1", x.state(0, 1, 0, 0, 0), -100);
        for (int what : new int[] {-1, 5, 9, 10, 16, Integer.MIN_VALUE, Integer.MAX_VALUE}) {
            C.due("what " + what, x.state(0, 0, 0, 0, what), -100);
        }
        C.due("ice beyond stop", x.ice(0, 0, 0, 2, 0, 0), -1);
        C.due("ice of cell 16", x.ice(0, 0, 0, 0, 16, 0), -1);
        C.due("ice of cell -1", x.ice(0, 0, 0, 0, -1, 0), -1);
        C.due("ice what 4", x.ice(0, 0, 0, 0, 0, 4), -1);
        C.due("ice what -1", x.ice(0, 0, 0, 0, 0, -1), -1);
        C.due("empty plan", Check.tell(x, 2, 0, ""), 0);
        C.due("stop of an empty plan", x.stop(0, 0, 0), 0);
    }

    private static void loadsAndFalls() {
        // 0 1 2
        // 3 4 5   19 * 19 / 10 is 36.
        IceStreet x = Check.street("size 3 2;all 19;shop 1 25 0 3;shop 4 15 0 5;crack 1 2;", "share 7;", "");
        int[] loads = {17, 35, 0, 10, 32, 10};
        for (int c = 0; c < 6; c++) {
            C.due("load " + c, x.ice(0, 0, -1, 0, c, 3), loads[c]);
            C.due("bears " + c, x.ice(0, 0, -1, 0, c, 2), 36);
        }
        C.due("none fell", x.state(0, 0, -1, 0, 2), 0);
        // All share all: both bear more than they can, the least falls, the other one stands then.
        x = Check.street("size 3 2;all 19;shop 1 25 0 3;shop 4 15 0 5;", "share 10;", "");
        C.due("shop 0 fell", x.state(0, 0, -1, 0, 10), -2);
        C.due("shop 1 stands", x.state(0, 0, -1, 0, 11), 4);
        C.due("lost", x.state(0, 0, -1, 0, 2), 3);
        C.due("its cell", x.ice(0, 0, -1, 0, 1, 0), 0);
        C.due("bears nothing", x.ice(0, 0, -1, 0, 1, 2), 0);
        C.due("the load left", x.ice(0, 0, -1, 0, 1, 3), 15);
        C.due("as told", x.cell(0, 1, 0), 19);
        // Just as much as it bears.
        x = Check.street("all 20;ice 1 19;shop 0 40 0 1;shop 1 37 0 2;", "share 0;", "");
        C.due("bears 40", x.state(0, 0, -1, 0, 10), 0);
        C.due("36 does not bear 37", x.state(0, 0, -1, 0, 11), -2);
    }

    private static void days() {
        // 0 1 2
        // 3 4 5   shop 0 with a stove of 5 at 4, a crack between 4 and 5.
        IceStreet x = Check.street("size 3 2;all 50;snow 0 2;snow 1 9;frost 6 -3 0;shop 4 9 5 1;crack 4 5;",
            "rent 25;", "day;day;day;day;");
        int[][] thick = {
            {50, 50, 50, 50, 50, 50},
            {54, 48, 56, 54, 51, 56},
            {51, 43, 53, 49, 43, 53},
            {51, 41, 53, 47, 38, 53},
            {55, 39, 59, 51, 39, 59}};
        int[] paid = {0, 127, 234, 329, 426};
        for (int n = 0; n <= 4; n++) {
            for (int c = 0; c < 6; c++) {
                C.due("thick of " + c + " behind " + n, x.ice(0, 0, 0, n, c, 0), thick[n][c]);
            }
            C.due("paid behind " + n, x.state(0, 0, 0, n, 1), paid[n]);
            C.due("day behind " + n, x.state(0, 0, 0, n, 0), n);
        }
        C.due("snow stays", x.ice(0, 0, 0, 4, 1, 1), 9);
        // Within 0 and 99; who falls behind a day has paid for it.
        x = Check.street("size 2 2;all 95;ice 3 4;frost 20 -20;bear 10;shop 0 90 1 9;shop 3 1 0 8;", "rent 10;share 0;",
            "day;day;day;day;day;day;day;day;");
        C.due("at most 99", x.ice(0, 0, 0, 1, 1, 0), 99);
        C.due("paid both", x.state(0, 0, 0, 1, 1), 99 + 24);
        C.due("0 at least", x.ice(0, 0, 0, 2, 1, 0), 79);
        C.due("4 bear 1", x.state(0, 0, 0, 2, 11), 3);
        C.due("paid both again", x.state(0, 0, 0, 2, 1), 123 + 78 + 4);
        x = Check.street("size 2 2;all 40;ice 1 3;frost -4;shop 0 99 3 9;", "rent 10;share 0;", "day;day;day;");
        C.due("at least 0", x.ice(0, 0, 0, 1, 1, 0), 0);
        C.due("33 bear 99", x.state(0, 0, 0, 1, 10), 0);
        C.due("26 do not", x.state(0, 0, 0, 2, 10), -2);
        C.due("it paid", x.state(0, 0, 0, 2, 1), 33 + 26);
        C.due("it pays no more", x.state(0, 0, 0, 3, 1), 59);
        C.due("it warms no more", x.ice(0, 0, 0, 3, 2, 0), 40 - 5 - 5 - 4);
        C.due("lost", x.state(0, 0, 0, 3, 2), 9);
    }

    private static void moves() {
        String lake = "size 3 3;all 20;shop 0 30 3 1;shop 8 30 2 1;shop 4 5 0 1;";
        can("moves beside", lake, "", "move 0 1;", true);
        can("moves where a shop is", lake, "", "move 0 4;", false);
        can("moves where it is", lake, "", "move 0 0;", false);
        can("moves round the corner", lake, "", "move 0 2;", true);
        can("no such shop", lake, "", "move 3 1;", false);
        can("no such cell", lake, "", "move 0 9;", false);
        can("barred", lake, "bar 2;", "move 0 2;", false);
        can("over barred ones", lake, "bar 1 3;", "move 0 2;", true);
        can("too thin", lake, "least 21;", "move 0 1;", false);
        can("thick enough", lake, "least 20;", "move 0 1;", true);
        can("apart", lake, "apart 2;", "move 0 2;", true);
        can("not apart", lake, "apart 3;", "move 0 2;", false);
        can("no stove", lake, "apart 9;", "move 2 3;", true);
        can("against a lane", lake, "lane 1 0;lane 3 0;", "move 0 1;", false);
        can("along a lane", lake, "lane 0 1;", "move 0 1;", true);
        can("round a lane", lake, "lane 2 1;", "move 0 2;", false);
        can("a lane of cells apart", lake, "lane 2 0;", "move 0 2;", true);
        can("cracks do not matter", lake + "crack 0 1;crack 0 3;", "", "move 0 1;", true);
        // 40 bear 30 and the half of 5, but not 39; its own weight it does not feel.
        can("heavier", lake.replace("shop 0 30", "shop 0 38"), "", "move 0 1;", true);
        can("too heavy", lake.replace("shop 0 30", "shop 0 39"), "", "move 0 1;", false);
        IceStreet x = Check.street(lake, "", "move 0 1;move 0 2;day;");
        C.due("where it is", x.state(0, 0, 0, 1, 10), 1);
        C.due("then", x.state(0, 0, 0, 2, 10), 2);
        C.due("load where it was", x.ice(0, 0, 0, 2, 0, 3), 0);
        C.due("load where it is", x.ice(0, 0, 0, 2, 2, 3), 30);
        C.due("load between", x.ice(0, 0, 0, 2, 1, 3), 17);
        C.due("17 do not bear it", x.state(0, 0, 0, 3, 10), -2);
        C.due("heat beside", x.ice(0, 0, 0, 3, 1, 0), 19);
        // A shop that comes beside another one makes that one fall.
        x = Check.street("size 3 2;all 20;ice 5 10;shop 0 30 0 1;shop 5 8 0 7;", "", "move 0 1;move 0 2;");
        C.due("not beside yet", x.state(0, 0, 0, 1, 11), 5);
        C.due("beside", x.state(0, 0, 0, 2, 11), -2);
        C.due("lost", x.state(0, 0, 0, 2, 2), 7);
    }

    private static void can(String what, String lake, String law, String plan, boolean yes) {
        C.due(what, Check.street(lake, law, plan).stop(0, 0, 0), yes ? 1 : 0);
    }

    private static void offs() {
        String lake = "size 3 3;all 20;shop 0 30 0 1;shop 8 30 0 1;shop 4 5 0 1;";
        can("no shore", lake, "", "off 0;", false);
        can("on the shore", lake + "shore 0;", "", "off 0;", true);
        can("a way to the shore", lake + "shore 2;", "", "off 0;", true);
        can("a shop there", lake + "shore 4;", "", "off 0;", false);
        can("no way", lake + "shore 2;", "lane 1 0;lane 3 0;", "off 0;", false);
        can("of the shore all the same", lake + "shore 0;", "lane 1 0;lane 3 0;", "off 0;", true);
        can("no such shop", lake + "shore 2;", "", "off 3;", false);
        IceStreet x = Check.street(lake + "shore 2;", "", "off 0;off 0;");
        C.due("not twice", x.stop(0, 0, 0), 1);
        C.due("off", x.state(0, 0, 0, 1, 10), -1);
        C.due("nothing lost", x.state(0, 0, 0, 1, 2), 0);
        C.due("no load", x.ice(0, 0, 0, 1, 0, 3), 0);
        can("one that is off", lake + "shore 2;", "", "off 0;", true);
        C.due("one that is off does not move",
            Check.street(lake + "shore 2;", "", "off 0;move 0 1;").stop(0, 0, 0), 1);
        C.due("one that fell does not go off",
            Check.street("all 1;shop 0 30 0 1;shore 0;", "", "off 0;").stop(0, 0, 0), 0);
    }

    private static void rides() {
        String lake = "size 3 3;all 20;ice 1 5;snow 0 1;snow 1 2;snow 2 3;snow 3 4;snow 4 5;snow 5 6;snow 6 7;snow 7 8;";
        IceStreet x = Check.street(lake, "", "go 20 0 5;sweep 2;go 3 8 2;sweep 9;");
        C.due("stop", x.stop(0, 0, 0), 3);
        int[][] snow = {{1, 2, 3, 4, 5, 6, 7, 8, 0}, {0, 2, 3, 0, 0, 0, 7, 8, 0}, {0, 2, 0, 0, 0, 0, 7, 8, 0}};
        for (int n = 0; n < 3; n++) {
            for (int c = 0; c < 9; c++) {
                C.due("snow of " + c + " behind " + n, x.ice(0, 0, 0, n, c, 1), snow[n][c]);
            }
        }
        can("too heavy", lake, "", "go 41 0 5;", false);
        can("no such cell", lake, "", "go 1 0 9;", false);
        can("from no such cell", lake, "", "go 1 9 0;", false);
        can("sweep no such cell", lake, "", "sweep 9;", false);
    }

    private static void parts() {
        // 0 1 | 2
        // 3 4 | 5     all of the last row below a crack
        // -------
        // 6 7   8
        IceStreet x = Check.street("size 3 3;all 20;crack 1 2;crack 5 4;crack 3 6;crack 7 4;crack 5 8;shop 0 1 0 1;"
            + "shop 4 1 0 1;shop 5 1 0 1;ice 4 29;", "rent 7;", "day;");
        C.due("parts", x.state(0, 0, -1, 0, 4), 3);
        C.due("first part", x.part(0, 0, -1, 0, 3, false), 0b000011011);
        C.due("second part", x.part(0, 0, -1, 0, 2, false), 0b000100100);
        C.due("third part", x.part(0, 0, -1, 0, 7, false), 0b111000000);
        C.due("dues of the first", x.part(0, 0, -1, 0, 1, true), 14 + 20);
        C.due("dues of the second", x.part(0, 0, -1, 0, 5, true), 14);
        C.due("dues of the third", x.part(0, 0, -1, 0, 8, true), 0);
        C.due("no such cell", x.part(0, 0, -1, 0, 9, false), -1);
        C.due("no such cell", x.part(0, 0, -1, 0, -1, true), -1);
        C.due("no such state", x.part(0, 0, 0, 2, 0, false), -1);
        C.due("one part", Check.street("", "", "").state(0, 0, 0, 0, 4), 1);
    }

    private static void stoves() {
        IceStreet x = Check.street("size 4 3;all 20;shop 0 1 2 1;shop 6 1 1 1;shop 5 1 0 1;shop 11 1 9 1;",
            "apart 3;bar 5 35;", "off 3;");
        C.due("spread", x.spread(0, 0, -1, 0), 2);
        C.due("broken", x.state(0, 0, -1, 0, 3), 0b1110);
        C.due("apart 4", Check.tell(x, 1, 0, "apart 4;"), 0);
        C.due("broken by 4", x.state(0, 0, -1, 0, 3), 0b1011);
        C.due("apart 2", Check.tell(x, 1, 0, "apart 2;"), 0);
        C.due("broken by 2", x.state(0, 0, -1, 0, 3), 0);
        C.due("no such state", x.spread(0, 0, 0, 1), -1);
        C.due("no such law", x.spread(0, 1, -1, 0), -1);
        x = Check.street("all 20;shop 0 1 2 1;shop 1 1 0 1;", "", "");
        C.due("one stove", x.spread(0, 0, -1, 0), -1);
        x = Check.street("all 20;ice 1 0;shop 0 1 2 1;shop 1 1 9 1;", "apart 9;", "");
        C.due("one fell", x.spread(0, 0, -1, 0), -1);
        C.due("none broken", x.state(0, 0, -1, 0, 3), 0);
    }
}
