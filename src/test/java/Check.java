import java.nio.charset.StandardCharsets;

/** What the tests share: telling texts to a street, and counting answers that are not due. */
final class Check {
    private int wrong = 0;
    private int asked = 0;

    void due(String call, long got, long want) {
        asked++;
        if (got != want) {
            wrong++;
            if (wrong <= 50) {
                System.out.println(call + " answered " + got + ", due is " + want);
            }
        }
    }

    void due(String call, boolean got, boolean want) {
        due(call, got ? 1 : 0, want ? 1 : 0);
    }

    /** Tells a text and looks at its number. */
    void told(IceStreet x, int sort, String text, int number) {
        due("text " + sort + " '" + text + "'", tell(x, sort, IceStreet.NONE, text), number);
    }

    /** Tells a text that has a FAULT, and looks at it and its place. */
    void faulty(int sort, String text, int fault, int place) {
        IceStreet x = new IceStreet();
        due("text " + sort + " '" + text + "'", tell(x, sort, IceStreet.NONE, text), fault == 0 ? 0 : -1);
        due("fault of " + sort + " '" + text + "'", x.fault(0), fault);
        due("place in " + sort + " '" + text + "'", x.fault(1), place);
        due("count behind '" + text + "'", x.count(sort), fault == 0 ? 1 : 0);
    }

    void finish() {
        System.out.println(asked + " answers, " + wrong + " not as due");
        if (wrong != 0) {
            System.exit(1);
        }
    }

    static void put(IceStreet x, String text) {
        byte[] bytes = text.getBytes(StandardCharsets.ISO_8859_1);
        int had = 0;
        for (int i = 0; i < bytes.length; i += 20) {
            int[] row = new int[5];
            for (int k = 0; k < 20; k++) {
                int b = i + k < bytes.length ? bytes[i + k] & 255 : 0;
                row[k / 4] = row[k / 4] << 8 | b;
            }
            had = x.feed(row[0], row[1], row[2], row[3], row[4]) - 20;
        }
        if (bytes.length % 20 != 0) {
            x.end(had + bytes.length % 20);
        }
    }

    static int tell(IceStreet x, int sort, int at, String text) {
        put(x, text);
        return x.text(sort, at);
    }

    /** A street with one LAKE, LAW and PLAN. */
    static IceStreet street(String lake, String law, String plan) {
        IceStreet x = new IceStreet();
        if (tell(x, 0, -1, lake) != 0 || tell(x, 1, -1, law) != 0 || tell(x, 2, -1, plan) != 0) {
            System.out.println("not told: " + lake + " | " + law + " | " + plan + ": fault " + x.fault(0)
                + " at " + x.fault(1));
            System.exit(1);
        }
        return x;
    }
}
