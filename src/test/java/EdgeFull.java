import java.util.ArrayList;
import java.util.List;
import java.util.function.Supplier;

/**
 * As many LAKES, LAWS and PLANS as may be: whatever is asked of the last ones is answered as if they were told alone;
 * and as many SHOPS, CELLS and ACTS as may be.
 */
final class EdgeFull {
    /** Question by question a new object, so that none is used for more calls than it should be. */
    interface Question {
        long of(IceStreet x, int lake, int law, int plan, int n);
    }

    private static final String SIX = "size 6 6;all 30;ice 7 60;ice 28 15;frost -2 1 -3;snow 0 1;snow 35 4;snow 8 2;weak 1 5;"
        + "weak 6 3;weak 29 9;crack 0 1;crack 28 29;crack 34 35;shore 5 30 35;shop 0 20 2 11;shop 35 30 3 12;shop 14 9 4 13;"
        + "shop 21 40 0 14;shop 22 8 5 15;shop 30 50 1 16;";
    private static final String SMALL = "size 2 2;bear 3;all 9;ice 3 12;frost -1;snow 1 1;weak 2 4;shore 3;crack 0 2;"
        + "shop 0 12 1 50;shop 2 9 2 60;";
    private static final String STRICT = "least 9;apart 3;share 4;rent 7;lane 1 0;lane 2 3;bar 1 7 21;";
    private static final String EASY = "share 2;rent 30;lane 0 2;bar 2;";
    private static final String BUSY = "day;move 0 3;go 9 6 8;sweep 35;off 1;day;move 2 13;off 5;day;";
    private static final String CALM = "sweep 0;day;off 0;";

    private final Edge e;

    EdgeFull(Edge edge) {
        e = edge;
    }

    void all() {
        e.section("Terms 1");
        e.says("LAKES, at most 2 (sort 0), LAWS, at most 2 (1), PLANS, at most 3 (2), from 0 on.");
        compare("the large one", SIX, STRICT, BUSY, SMALL, EASY, CALM);
        compare("the small one", SMALL, EASY, CALM, SIX, STRICT, BUSY);
        sixShops();
        manyActs();
    }

    private static List<Question> questions() {
        List<Question> all = new ArrayList<>();
        all.add((x, k, w, p, n) -> x.stop(k, w, p));
        all.add((x, k, w, p, n) -> x.spread(k, w, p, n));
        all.add((x, k, w, p, n) -> x.hearth(k, w, p, n));
        all.add((x, k, w, p, n) -> x.gulls(k, w, p, n));
        for (int what = 0; what < 17; what++) {
            int i = what;
            all.add((x, k, w, p, n) -> x.state(k, w, p, n, i));
        }
        for (int cell : new int[] {0, 1, 2, 3, 4, 14, 35, 36}) {
            int c = cell;
            for (int what = 0; what < 4; what++) {
                int i = what;
                all.add((x, k, w, p, n) -> x.ice(k, w, p, n, c, i));
            }
            all.add((x, k, w, p, n) -> x.from(k, w, p, n, 9, c));
            all.add((x, k, w, p, n) -> x.part(k, w, p, n, c, false));
            all.add((x, k, w, p, n) -> x.part(k, w, p, n, c, true));
            all.add((x, k, w, p, n) -> x.winter(k, w, p, n, 77, 9, 100 + c));
        }
        ofShops(all);
        ofTrips(all);
        return all;
    }

    private static void ofShops(List<Question> all) {
        for (int shop = 0; shop < 7; shop++) {
            int s = shop;
            all.add((x, k, w, p, n) -> x.holds(k, w, p, n, s));
            all.add((x, k, w, p, n) -> x.set(k, w, p, n, s));
            all.add((x, k, w, p, n) -> x.cold(k, w, p, n, s, 9));
            all.add((x, k, w, p, n) -> x.fallen(k, w, p, n, 5, 9, 9, s));
            all.add((x, k, w, p, n) -> x.drawn(k, w, p, n, 6, 9 + s));
            for (int what = 0; what < 3; what++) {
                int i = what;
                all.add((x, k, w, p, n) -> x.shopping(k, w, p, n, s, i));
                all.add((x, k, w, p, n) -> x.winter(k, w, p, n, s, 20, i));
            }
        }
        all.add((x, k, w, p, n) -> x.drawn(k, w, p, n, 2, 0));
        all.add((x, k, w, p, n) -> x.fair(k, w, p, n, 9, 2, 1, false));
        all.add((x, k, w, p, n) -> x.fair(k, w, p, n, 9, 1, 2, true));
    }

    private static void ofTrips(List<Question> all) {
        int[][] trips = {{1, 3}, {3, 1}, {1, 33}, {4, 31}, {0, 1}, {13, 29}};
        for (int[] trip : trips) {
            int a = trip[0];
            int b = trip[1];
            for (int sort = 0; sort < 3; sort++) {
                int s = sort;
                all.add((x, k, w, p, n) -> x.lacks(k, w, p, n, 20, a, b, s));
                for (int what : new int[] {0, 1, 10, 11, 12, 14}) {
                    all.add((x, k, w, p, n) -> x.way(k, w, p, n, 9, a, b, s, what));
                }
            }
            all.add((x, k, w, p, n) -> x.luck(k, w, p, n, 9, a, b));
            all.add((x, k, w, p, n) -> x.most(k, w, p, n, a, b));
            all.add((x, k, w, p, n) -> x.branches(k, w, p, n, 9, a, b, 3));
            all.add((x, k, w, p, n) -> x.old(k, w, p, n, 9, a, b, 1L << a | 1L << b));
            all.add((x, k, w, p, n) -> x.thaw(k, w, p, n, 9, a, b));
            all.add((x, k, w, p, n) -> x.sawn(k, w, p, n, 9, a, b));
            all.add((x, k, w, p, n) -> x.needs(k, w, p, n, 9, a, b));
            all.add((x, k, w, p, n) -> x.meet(k, w, p, n, 9012, 100 * b + a, 100 * a + b, 1, false));
            all.add((x, k, w, p, n) -> x.meet(k, w, p, n, 9012, 100 * b + a, 100 * a + b, 1, true));
        }
    }

    private static IceStreet full(String lake, String law, String plan, String otherLake, String otherLaw, String otherPlan) {
        IceStreet x = Check.street(otherLake, otherLaw, otherPlan);
        Check.tell(x, 0, -1, lake);
        Check.tell(x, 1, -1, law);
        Check.tell(x, 2, -1, otherPlan + "day;");
        Check.tell(x, 2, -1, plan);
        // What was asked of others before does not matter, either.
        x.drawn(0, 0, 0, 0, 3, 0);
        x.hearth(0, 0, 0, 0);
        x.way(0, 0, 0, 0, 1, 0, 3, 2, 0);
        return x;
    }

    private void compare(String what, String lake, String law, String plan, String lake0, String law0, String plan0) {
        Supplier<IceStreet> alone = () -> Check.street(lake, law, plan);
        Supplier<IceStreet> last = () -> full(lake, law, plan, lake0, law0, plan0);
        int stop = alone.get().stop(0, 0, 0);
        e.at(what + ", STOP", stop, alone.get().act(0, -1, 0));
        List<Question> all = questions();
        for (int i = 0; i < all.size(); i++) {
            for (int n : new int[] {0, stop, stop + 1}) {
                long want = all.get(i).of(alone.get(), 0, 0, 0, n);
                e.at(what + ", question " + i + " behind " + n, all.get(i).of(last.get(), 1, 1, 2, n), want);
                // LAKES 0, LAWS 0, PLANS 0 are the others, one more than these is not there.
                if (n == 0 && i > 3 && i < 8) {
                    e.beyond(what + ", LAKE 2, question " + i, all.get(i).of(last.get(), 2, 1, 2, n), -100);
                    e.beyond(what + ", LAW 2, question " + i, all.get(i).of(last.get(), 1, 2, 2, n), -100);
                    e.beyond(what + ", PLAN 3, question " + i, all.get(i).of(last.get(), 1, 1, 3, n), -100);
                }
            }
        }
    }

    private void sixShops() {
        e.says("SHOPS, at most 6, from 0 on");
        String six = "size 6 6;all 30;shore 0 1 2 3 4 35;shop 0 1 2 1;shop 1 1 2 2;shop 2 1 2 4;shop 3 1 2 8;shop 4 1 2 16;"
            + "shop 35 1 2 32;";
        IceStreet x = Check.street(six, "share 0;apart 2;bar 35;rent 10;", "off 5;");
        e.at("where SHOP 5 is", x.state(0, 0, 0, 0, 15), 35);
        e.beyond("where SHOP 6 is", x.state(0, 0, 0, 0, 16), -100);
        e.at("BROKEN", x.state(0, 0, 0, 0, 3), 0b111111);
        e.at("SPREAD", x.spread(0, 0, 0, 0), 1);
        e.at("DUES", x.part(0, 0, 0, 0, 0, true), 180);
        // Its own 2 inches a DAY: 3 inches bear 0.
        e.at("HOLDS of SHOP 5", x.holds(0, 0, 0, 0, 5), 14);
        e.beyond("HOLDS of SHOP 6", x.holds(0, 0, 0, 0, 6), -1);
        e.at("SET of SHOP 5", x.set(0, 0, 0, 0, 5), 11);
        e.beyond("SET of SHOP 6", x.set(0, 0, 0, 0, 6), -1);
        e.at("HEARTH, of those with two beside", x.hearth(0, 0, 0, 0), 1);
        e.at("DRAWN in 6", x.drawn(0, 0, 0, 0, 6, 0), 0);
        e.at("DRAWN in 6, the last", x.drawn(0, 0, 0, 0, 6, 15), 5);
        e.at("COLD of SHOP 5", x.cold(0, 0, 0, 0, 5, 60), 2);
        e.beyond("COLD of SHOP 6", x.cold(0, 0, 0, 0, 6, 60), -100);
        e.at("FALLEN of SHOP 5", x.fallen(0, 0, 0, 0, 1, 9, 60, 5), 9);
        e.beyond("FALLEN of SHOP 6", x.fallen(0, 0, 0, 0, 1, 9, 60, 6), -1);
        e.at("how many stand", x.winter(0, 0, 0, 0, 1, 1, 2), 6);
        e.at("how many stand later", x.winter(0, 0, 0, 0, 1, 60, 2), 0);
        e.at("LOST", x.winter(0, 0, 0, 0, 1, 60, 0), 63);
        int[] asked = {0, 89, 13};
        for (int what = 0; what < 3; what++) {
            e.at("shopping of SHOP 5, what " + what, x.shopping(0, 0, 0, 0, 5, what), asked[what]);
            e.beyond("shopping of SHOP 6, what " + what, x.shopping(0, 0, 0, 0, 6, what), -1);
        }
        e.at("FAIR beside them", x.fair(0, 0, 0, 0, 90, 6, 4, false), 6);
        e.beyond("FAIR with one", x.fair(0, 0, 0, 0, 90, 6, 5, false), -1);
        e.at("off", x.state(0, 0, 0, 1, 15), -1);
    }

    private void manyActs() {
        e.says("A PLAN has ACTS, at most 30, from 0 on.");
        IceStreet x = Check.street("all 60;frost -1;", "", "day;".repeat(30));
        e.at("STOP", x.stop(0, 0, 0), 30);
        e.at("DAY behind 30", x.state(0, 0, 0, 30, 0), 30);
        e.at("THICK behind 30", x.ice(0, 0, 0, 30, 15, 0), 30);
        e.beyond("behind 31", x.state(0, 0, 0, 31, 0), -100);
    }
}
