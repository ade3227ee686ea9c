import java.util.Random;

/** Any arguments in any state: no call may throw or fail to end. */
public final class WildTest {
    private static final int[] WILD = {Integer.MIN_VALUE, -1000000, -101, -100, -2, -1, 0, 0, 0, 0, 0, 1, 1, 2, 3, 4, 5, 6, 7,
        8, 9, 10, 11, 12, 15, 16, 20, 24, 30, 31, 35, 36, 40, 41, 59, 60, 61, 62, 99, 100, 101, 110, 135, 136, 705, 999, 1000,
        10010, 999999, 1000000, Integer.MAX_VALUE};
    private static final String[] PIECES = {"size ", "all ", "ice ", "snow ", "weak ", "crack ", "frost ", "bear ", "shore ",
        "shop ", "least ", "apart ", "share ", "rent ", "lane ", "bar ", "day", "move ", "off ", "go ", "sweep ", ";", ";",
        ";", "-", "0 ", "1 ", "2 ", "3 ", "4 ", "5 ", "9 ", "15 ", "35 ", "36 ", "99 ", "100 ", "\n", "x", "\u00ff"};

    private static final Check C = new Check();
    private static Random r;

    public static void main(String[] args) {
        for (int seed = 0; seed < 300; seed++) {
            r = new Random(seed);
            IceStreet x = new IceStreet();
            for (int call = 0; call < 512; call++) {
                if (call % 100 == 0 && seed % 3 > 0) {
                    tellSome(x);
                }
                C.due("a call goes on", call(x, r.nextInt(42)) == Long.MIN_VALUE, false);
            }
        }
        C.finish();
    }

    private static int any() {
        return r.nextInt(20) == 0 ? r.nextInt() : WILD[r.nextInt(WILD.length)];
    }

    /** What is there, more often than not. */
    private static int few() {
        return r.nextInt(8) == 0 ? any() : 0;
    }

    private static int plan() {
        return r.nextInt(8) == 0 ? any() : r.nextInt(4) - 1;
    }

    private static int n() {
        return r.nextInt(3) == 0 ? any() : 0;
    }

    private static boolean flip() {
        return r.nextBoolean();
    }

    private static void tellSome(IceStreet x) {
        Model m = Model.random(r, 36);
        if (m.lakeText().length() <= 600) {
            x.end(0);
            Check.tell(x, 0, x.count(0) == 0 ? -1 : 0, m.lakeText());
            x.end(0);
            Check.tell(x, 1, x.count(1) == 0 ? -1 : 0, m.lawText());
            x.end(0);
            Check.tell(x, 2, x.count(2) == 0 ? -1 : 0, m.planText());
        }
    }

    private static long tellWild(IceStreet x) {
        StringBuilder t = new StringBuilder();
        for (int k = r.nextInt(30); k > 0; k--) {
            t.append(PIECES[r.nextInt(PIECES.length)]);
        }
        Check.put(x, t.toString());
        return x.text(r.nextInt(4) == 0 ? any() : r.nextInt(3), r.nextInt(4) == 0 ? any() : r.nextInt(2) - 1);
    }

    private static long call(IceStreet x, int which) {
        switch (which) {
            case 0: return x.feed(any(), any(), any(), any(), any());
            case 1: return x.end(any());
            case 2: return tellWild(x);
            case 3: return x.fault(any());
            case 4: return x.lake(few(), any());
            case 5: return x.cell(few(), any(), any());
            case 6: return x.shop(few(), any(), any());
            case 7: return x.law(few(), any());
            case 8: return x.act(few(), any(), any());
            case 9: return x.stop(few(), few(), plan());
            case 10: return x.state(few(), few(), plan(), n(), any());
            case 11: return x.ice(few(), few(), plan(), n(), any(), any());
            case 12: return x.way(few(), few(), plan(), n(), any(), any(), any(), any(), any());
            case 13: return x.luck(few(), few(), plan(), n(), any(), any(), any());
            case 14: return x.most(few(), few(), plan(), n(), any(), any());
            case 15: return x.from(few(), few(), plan(), n(), any(), any());
            case 16: return x.part(few(), few(), plan(), n(), any(), flip());
            case 17: return x.holds(few(), few(), plan(), n(), any());
            case 18: return x.fair(few(), few(), plan(), n(), any(), any(), any(), flip());
            case 19: return x.drawn(few(), few(), plan(), n(), any(), any());
            case 20: return x.set(few(), few(), plan(), n(), any());
            default: return callMore(x, which);
        }
    }

    private static long callMore(IceStreet x, int which) {
        switch (which) {
            case 21: return x.hearth(few(), few(), plan(), n());
            case 22: return x.branches(few(), few(), plan(), n(), any(), any(), any(), any());
            case 23: return x.old(few(), few(), plan(), n(), any(), any(), any(), flip() ? any() : r.nextLong());
            case 24: return x.thaw(few(), few(), plan(), n(), any(), any(), any());
            case 25: return x.gulls(few(), few(), plan(), n());
            case 26: return x.sawn(few(), few(), plan(), n(), any(), any(), any());
            case 27: return x.meet(few(), few(), plan(), n(), any(), any(), any(), any(), flip());
            case 28: return x.winter(few(), few(), plan(), n(), any(), any(), any());
            case 29: return x.fallen(few(), few(), plan(), n(), any(), any(), any(), any());
            case 30: return x.shopping(few(), few(), plan(), n(), any(), any());
            case 31: return x.cold(few(), few(), plan(), n(), any(), any());
            case 32: return x.lacks(few(), few(), plan(), n(), any(), any(), any(), any());
            case 33: return x.needs(few(), few(), plan(), n(), any(), any(), any());
            case 34: return x.spread(few(), few(), plan(), n());
            case 35: return x.count(any());
            case 36: return x.image(any()) ? 1 : 0;
            case 37: return x.again(any()) ? 1 : 0;
            default: return tellWild(x);
        }
    }
}
