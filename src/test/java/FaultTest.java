import java.util.Random;

/** Made-up texts, most of them with FAULTS, read by the program and by Texts. */
public final class FaultTest {
    private static final Check CHECK = new Check();
    /** A big letter for each number: Z a size, C a CELL, T 1 .. 99, N 0 .. 9, F a frost, S a SHOP. */
    private static final String[][] LINES = {
        {"size 4 4", "size Z Z", "all T", "ice C T", "snow C N", "weak C N", "crack C C", "crack 1 2", "crack 6 2",
            "frost F", "frost F F F", "frost F F F F F F F F F F F F", "frost F F F F F F F F F F F F F", "bear T",
            "shore C", "shore C C C", "shop C T N T"},
        {"least T", "apart N", "share N", "rent T", "lane C C", "bar C", "bar C C C C"},
        {"day", "move S C", "off S", "go T C C", "sweep C"},
    };
    private static final String WILD = "abdefgoz0123459;;--  \n!\u0080\u00ff{`/:";

    private static final int[] SEEN = new int[5];

    private final Random r;

    private FaultTest(Random random) {
        r = random;
    }

    public static void main(String[] args) {
        int rounds = args.length > 0 ? Integer.parseInt(args[0]) : 20000;
        for (int seed = 0; seed < rounds; seed++) {
            FaultTest it = new FaultTest(new Random(seed));
            int sort = seed % 3;
            it.look(sort, it.made(sort));
        }
        for (int fault = 0; fault <= 4; fault++) {
            CHECK.due("texts with FAULT " + fault + " are many", SEEN[fault] * 100 > rounds, true);
        }
        CHECK.finish();
    }

    private void look(int sort, String text) {
        Texts due = new Texts(sort, text);
        SEEN[due.fault]++;
        IceStreet x = new IceStreet();
        String named = "of sort " + sort + " '" + text.replace("\n", "\\n") + "'";
        CHECK.due("text " + named, Check.tell(x, sort, -1, text), due.fault == 0 ? 0 : -1);
        CHECK.due("fault " + named, x.fault(0), due.fault);
        CHECK.due("place " + named, x.fault(1), due.place);
        CHECK.due("count behind " + named, x.count(sort), due.fault == 0 ? 1 : 0);
        CHECK.due("the tape behind " + named, x.end(0) == 0 && x.end(1) == -1, true);
        if (due.fault == 0) {
            askTold(x, due, named);
        }
    }

    private static void askTold(IceStreet x, Texts due, String named) {
        FullModel m = new FullModel(due.sort == 0 ? due : new Texts(0, ""), due.sort == 1 ? due : new Texts(1, ""),
            due.sort == 2 ? due : new Texts(2, ""));
        if (due.sort == 0) {
            askLake(x, m, named);
        } else if (due.sort == 1) {
            askLaw(x, m, named);
        } else {
            CHECK.due("ACTS " + named, x.act(0, -1, 0), m.acts.length);
            for (int i = 0; i <= m.acts.length; i++) {
                for (int what = 0; what < 4; what++) {
                    CHECK.due("act " + i + " " + what + " " + named, x.act(0, i, what),
                        i < m.acts.length ? m.acts[i][what] : -2);
                }
            }
        }
    }

    private static void askLake(IceStreet x, FullModel m, String named) {
        int[] of = {m.w, m.h, m.bear, m.frosts.length, m.shops.length, -100};
        for (int what = 0; what < of.length; what++) {
            CHECK.due("lake " + what + " " + named, x.lake(0, what), of[what]);
        }
        for (int k = 0; k <= 12; k++) {
            CHECK.due("frost " + k + " " + named, x.lake(0, 20 + k), k < m.frosts.length ? m.frosts[k] : -100);
        }
        for (int k = 0; k <= m.shops.length; k++) {
            for (int what = 0; what < 4; what++) {
                CHECK.due("shop " + k + " " + what + " " + named, x.shop(0, k, what),
                    k < m.shops.length ? m.shops[k][what] : -1);
            }
        }
        for (int c = 0; c <= 36; c++) {
            int cracks = 0;
            for (int d = 0; c < m.w * m.h && d < m.w * m.h; d++) {
                cracks += m.crack[c][d] ? 1 : 0;
            }
            boolean there = c < m.w * m.h;
            int[] due = there ? new int[] {m.thick[c], m.snow[c], m.weak[c], m.shore[c] ? 1 : 0, cracks} : new int[5];
            for (int what = 0; what < 5; what++) {
                CHECK.due("cell " + c + " " + what + " " + named, x.cell(0, c, what), there ? due[what] : -1);
            }
        }
    }

    private static void askLaw(IceStreet x, FullModel m, String named) {
        int[] of = {m.least, m.apart, m.share, m.rent, m.lanes.length, -1};
        for (int what = 0; what < of.length; what++) {
            CHECK.due("law " + what + " " + named, x.law(0, what), of[what]);
        }
        for (int k = 0; k <= 12; k++) {
            CHECK.due("lane from " + k + " " + named, x.law(0, 20 + k), k < m.lanes.length ? m.lanes[k][0] : -1);
            CHECK.due("lane to " + k + " " + named, x.law(0, 40 + k), k < m.lanes.length ? m.lanes[k][1] : -1);
        }
        for (int c = 0; c <= 36; c++) {
            CHECK.due("bar " + c + " " + named, x.law(0, 60 + c), c == 36 ? -1 : m.barred[c] ? 1 : 0);
        }
    }

    private String made(int sort) {
        StringBuilder text = new StringBuilder();
        boolean wrongNumbers = r.nextInt(2) == 0;
        boolean alike = r.nextInt(4) == 0;
        int lines = alike ? 5 + r.nextInt(31) : r.nextInt(8);
        String same = LINES[sort][r.nextInt(LINES[sort].length)];
        for (int k = 0; k < lines; k++) {
            String line = alike && r.nextInt(20) > 0 ? same : LINES[sort][r.nextInt(LINES[sort].length)];
            for (char c : line.toCharArray()) {
                text.append(Character.isUpperCase(c) ? number(c, wrongNumbers) : "" + c);
            }
            text.append(blank()).append(';').append(blank());
        }
        for (int k = r.nextInt(3) == 0 ? 1 + r.nextInt(2) : 0; k > 0; k--) {
            spoil(text);
        }
        return text.length() > 600 ? text.substring(0, 600) : text.toString();
    }

    private String blank() {
        return r.nextInt(6) > 0 ? "" : r.nextInt(2) == 0 ? " " : "\n ";
    }

    private String number(char sort, boolean wrong) {
        if (wrong && r.nextInt(12) == 0) {
            return "" + r.nextInt(r.nextInt(3) == 0 ? 130 : 100);
        }
        switch (sort) {
            case 'Z': return "" + (2 + r.nextInt(5));
            case 'C': return (r.nextInt(9) == 0 ? "0" : "") + r.nextInt(r.nextInt(6) == 0 && wrong ? 36 : 10);
            case 'T': return "" + (1 + r.nextInt(99));
            case 'N': return "" + r.nextInt(10);
            case 'S': return "" + r.nextInt(6);
            default: return (r.nextBoolean() ? "-" + blank() : "") + r.nextInt(21);
        }
    }

    private void spoil(StringBuilder text) {
        if (text.length() == 0) {
            return;
        }
        int at = r.nextInt(text.length());
        switch (r.nextInt(4)) {
            case 0:
                text.deleteCharAt(at);
                break;
            case 1:
                text.setLength(at);
                break;
            case 2:
                text.setCharAt(at, WILD.charAt(r.nextInt(WILD.length())));
                break;
            default:
                text.insert(at, WILD.charAt(r.nextInt(WILD.length())));
                break;
        }
    }
}
