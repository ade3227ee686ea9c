/** Promises 6 to 10: what was told. */
public final class ToldTest {
    private static final Check C = new Check();

    public static void main(String[] args) {
        atFirst();
        lakes();
        laws();
        plans();
        C.finish();
    }

    private static void atFirst() {
        IceStreet x = Check.street("", "", "");
        int[] lake = {4, 4, 10, 1, 0, -100};
        for (int what = 0; what < lake.length; what++) {
            C.due("lake at first " + what, x.lake(0, what), lake[what]);
        }
        C.due("frost at first", x.lake(0, 20), 0);
        C.due("second frost at first", x.lake(0, 21), -100);
        for (int c = 0; c < 16; c++) {
            int[] cell = {20, 0, 0, 0, 0, -1};
            for (int what = 0; what < cell.length; what++) {
                C.due("cell at first " + what, x.cell(0, c, what), cell[what]);
            }
        }
        C.due("cell 16", x.cell(0, 16, 0), -1);
        C.due("shop at first", x.shop(0, 0, 0), -1);
        int[] law = {0, 0, 5, 1, 0, -1};
        for (int what = 0; what < law.length; what++) {
            C.due("law at first " + what, x.law(0, what), law[what]);
        }
        C.due("acts at first", x.act(0, -1, 0), 0);
    }

    private static void lakes() {
        IceStreet x = new IceStreet();
        C.told(x, 0, "size 5 2;ice 1 50;all 30;ice 2 40;ice 3 60;ice 3 61;snow 4 8;snow 4 9;weak 5 6;bear 7;bear 8;"
            + "crack 0 5;crack 1 0;crack 0 1;crack 1 6;crack 2 1;shore 9 8;shore 7 8;"
            + "frost 1 2 3;frost -20 20 - 0 7;shop 9 99 8 7;shop 0 1 0 0;", 0);
        int[] lake = {5, 2, 8, 4, 2};
        for (int what = 0; what < lake.length; what++) {
            C.due("lake " + what, x.lake(0, what), lake[what]);
        }
        int[] frosts = {-20, 20, 0, 7, -100};
        for (int k = 0; k < frosts.length; k++) {
            C.due("frost " + k, x.lake(0, 20 + k), frosts[k]);
        }
        C.told(x, 0, "", 1);
        C.due("frost of another lake", x.lake(1, 20), 0);
        C.due("thick of another lake", x.cell(1, 3, 0), 20);
        C.due("shops of another lake", x.lake(1, 4), 0);
        C.due("lake what 5", x.lake(0, 5), -100);
        C.due("lake what 19", x.lake(0, 19), -100);
        C.due("lake what -1", x.lake(0, -1), -100);
        C.due("lake 2", x.lake(2, 0), -100);
        C.due("lake -1", x.lake(-1, 0), -100);
        int[] thick = {30, 30, 40, 61, 30, 30, 30, 30, 30, 30, -1};
        int[] snow = {0, 0, 0, 0, 9, 0, 0, 0, 0, 0, -1};
        int[] weak = {0, 0, 0, 0, 0, 6, 0, 0, 0, 0, -1};
        int[] shore = {0, 0, 0, 0, 0, 0, 0, 1, 1, 1, -1};
        int[] cracks = {2, 3, 1, 0, 0, 1, 1, 0, 0, 0, -1};
        for (int c = 0; c < 11; c++) {
            C.due("thick " + c, x.cell(0, c, 0), thick[c]);
            C.due("snow " + c, x.cell(0, c, 1), snow[c]);
            C.due("weak " + c, x.cell(0, c, 2), weak[c]);
            C.due("shore " + c, x.cell(0, c, 3), shore[c]);
            C.due("cracks " + c, x.cell(0, c, 4), cracks[c]);
            C.due("cell what 5", x.cell(0, c, 5), -1);
        }
        C.due("cell -1", x.cell(0, -1, 0), -1);
        C.due("cell of lake 2", x.cell(2, 0, 0), -1);
        C.due("cell what -1", x.cell(0, 0, -1), -1);
        int[][] shops = {{9, 99, 8, 7, -1}, {0, 1, 0, 0, -1}, {-1, -1, -1, -1, -1}};
        for (int k = 0; k < 3; k++) {
            for (int what = 0; what < 5; what++) {
                C.due("shop " + k + " " + what, x.shop(0, k, what), shops[k][what]);
            }
        }
        C.due("shop -1", x.shop(0, -1, 1), -1);
        C.due("shop of lake 1", x.shop(1, 0, 1), -1);
        C.due("shop of lake 2", x.shop(2, 0, 1), -1);
        C.due("shop what -1", x.shop(0, 0, -1), -1);
    }

    private static void laws() {
        IceStreet x = new IceStreet();
        C.told(x, 1, "least 9;least 98;apart 7;share 0;rent 77;lane 1 2;lane 35 0;lane 1 2;bar 3 35;bar 4;", 0);
        int[] law = {98, 7, 0, 77, 3};
        for (int what = 0; what < law.length; what++) {
            C.due("law " + what, x.law(0, what), law[what]);
        }
        int[] from = {1, 35, 1, -1};
        int[] to = {2, 0, 2, -1};
        for (int k = 0; k < 4; k++) {
            C.due("from " + k, x.law(0, 20 + k), from[k]);
            C.due("to " + k, x.law(0, 40 + k), to[k]);
        }
        for (int c = 0; c < 36; c++) {
            C.due("barred " + c, x.law(0, 60 + c), c == 3 || c == 4 || c == 35 ? 1 : 0);
        }
        for (int what : new int[] {-1, 5, 19, 39, 59, 96, Integer.MIN_VALUE, Integer.MAX_VALUE}) {
            C.due("law what " + what, x.law(0, what), -1);
        }
        C.due("law 1", x.law(1, 0), -1);
        C.due("law -1", x.law(-1, 0), -1);
    }

    private static void plans() {
        IceStreet x = new IceStreet();
        C.told(x, 2, "move 5 35;day;off 4;go 99 0 35;sweep 7;", 0);
        int[][] acts = {{1, 5, 35, -1}, {0, -1, -1, -1}, {2, 4, -1, -1}, {3, 99, 0, 35}, {4, 7, -1, -1}};
        for (int i = 0; i < acts.length; i++) {
            for (int what = 0; what < 4; what++) {
                C.due("act " + i + " " + what, x.act(0, i, what), acts[i][what]);
            }
            C.due("act what 4", x.act(0, i, 4), -2);
            C.due("act what -1", x.act(0, i, -1), -2);
        }
        C.due("acts", x.act(0, -1, 0), 5);
        C.due("acts what 1", x.act(0, -1, 1), -2);
        C.due("act 5", x.act(0, 5, 0), -2);
        C.due("act -2", x.act(0, -2, 0), -2);
        C.due("acts of plan 1", x.act(1, -1, 0), -2);
        C.due("acts of plan -1", x.act(-1, -1, 0), -2);
        C.told(x, 2, "", 1);
        C.due("acts of none", x.act(1, -1, 0), 0);
        C.due("act 0 of none", x.act(1, 0, 0), -2);
    }
}
