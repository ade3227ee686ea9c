import java.io.IOException;
import java.nio.charset.StandardCharsets;
import java.nio.file.Files;
import java.nio.file.Path;
import java.nio.file.Paths;
import java.util.BitSet;
import java.util.LinkedHashMap;
import java.util.Map;
import java.util.regex.Matcher;
import java.util.regex.Pattern;

/**
 * Sentences of the document, each with answers on its edge and one step beyond it. Each sentence is quoted word by
 * word, and at the end every word of the Terms and the promises must have been quoted: so none is without a test.
 */
final class Edge {
    private static final Path DOCUMENT = Paths.get("..", "shared", "DOC.md");

    /** A STATE to be asked for something. */
    interface Asked {
        long of(int lake, int law, int plan, int n);
    }

    private final Map<String, String> texts = new LinkedHashMap<>();
    private final Map<String, BitSet> quoted = new LinkedHashMap<>();
    private String section = "";
    private String sentence = "";
    private boolean hasBeyond;
    private int onEdge;
    private int steps;
    private int sentences;
    private int answers;
    private int wrong;

    Edge() {
        readDocument();
    }

    private void readDocument() {
        String all;
        try {
            all = Files.readString(DOCUMENT, StandardCharsets.UTF_8);
        } catch (IOException e) {
            System.out.println("no document at " + DOCUMENT + ": sentences are not looked up there");
            return;
        }
        Matcher terms = Pattern.compile("(?s)## Terms\n(.*?)\nThe constants: (.*?)\n").matcher(all);
        if (terms.find()) {
            for (String item : terms.group(1).split("\n(?=\\d\\. )")) {
                if (!item.isBlank()) {
                    String text = item.strip();
                    keep("Terms " + text.charAt(0), text.substring(2));
                }
            }
            keep("Constants", terms.group(2));
        }
        Matcher promise = Pattern.compile("(?m)^## (Promise \\d+): .*\n\n`[^`]*`: (.*)$").matcher(all);
        while (promise.find()) {
            keep(promise.group(1), promise.group(2));
        }
        if (texts.size() != 5 + 1 + 39) {
            fail("of the document " + texts.size() + " sections were found: " + texts.keySet());
        }
    }

    private void keep(String name, String text) {
        texts.put(name, plain(text));
        quoted.put(name, new BitSet());
    }

    private static String plain(String text) {
        return text.replace("```text", " ").replace("```", " ").replaceAll("\\s+", " ").strip();
    }

    void section(String name) {
        endSentence();
        section = name;
        if (!texts.isEmpty() && !texts.containsKey(name)) {
            fail("the document has no " + name);
        }
    }

    /** A sentence with an edge: it must be asked on the edge and beyond it. */
    void says(String quote) {
        open(quote, true);
    }

    /** A sentence without an edge. */
    void tells(String quote) {
        open(quote, false);
    }

    private void open(String quote, boolean edged) {
        endSentence();
        sentence = quote;
        hasBeyond = edged;
        sentences++;
        markQuote(plain(quote));
    }

    private void markQuote(String quote) {
        String text = texts.get(section);
        if (text == null) {
            return;
        }
        BitSet marks = quoted.get(section);
        int at = text.indexOf(quote);
        if (at < 0) {
            fail(section + " does not say '" + quote + "'");
            return;
        }
        // A few words may stand there more than once: then the next place that was not quoted yet is meant.
        for (int next = at; next >= 0; next = text.indexOf(quote, next + 1)) {
            if (marks.nextClearBit(next) < next + quote.length()) {
                at = next;
                break;
            }
        }
        marks.set(at, at + quote.length());
    }

    private void endSentence() {
        if (!sentence.isEmpty() && (onEdge == 0 || hasBeyond && steps == 0)) {
            fail(section + ", '" + sentence + "': " + onEdge + " answers on its edge, " + steps + " beyond");
        }
        sentence = "";
        onEdge = 0;
        steps = 0;
    }

    void at(String call, long got, long want) {
        onEdge++;
        due(call, got, want);
    }

    void at(String call, boolean got, boolean want) {
        at(call, got ? 1 : 0, want ? 1 : 0);
    }

    void beyond(String call, long got, long want) {
        steps++;
        due(call + " (beyond)", got, want);
    }

    void beyond(String call, boolean got, boolean want) {
        beyond(call, got ? 1 : 0, want ? 1 : 0);
    }

    private void due(String call, long got, long want) {
        answers++;
        if (got != want) {
            fail(section + ", '" + sentence + "': " + call + " answered " + got + ", due is " + want);
        }
    }

    private void fail(String what) {
        wrong++;
        if (wrong <= 60) {
            System.out.println(what);
        }
    }

    /** A text without a FAULT. */
    void fine(int sort, String text) {
        onEdge++;
        look(sort, text, 0, -1);
    }

    /** A text with a FAULT at a place. */
    void bad(int sort, String text, int fault, int place) {
        steps++;
        look(sort, text, fault, place);
    }

    private void look(int sort, String text, int fault, int place) {
        IceStreet x = new IceStreet();
        String named = "of sort " + sort + " '" + text.replace("\n", "\\n") + "'";
        due("text " + named, Check.tell(x, sort, -1, text), fault == 0 ? 0 : -1);
        due("fault " + named, x.fault(0), fault);
        due("place " + named, x.fault(1), place);
        due("count behind " + named, x.count(sort), fault == 0 ? 1 : 0);
    }

    /** What is asked of the STATES of a street with one LAKE, LAW and PLAN, of which STOP is given. */
    void statesUpTo(int stop, String call, Asked asked, long none) {
        at(call + " behind " + stop + " ACTS", asked.of(0, 0, 0, stop) != none, true);
        at(call + " behind none", asked.of(0, 0, -1, 0) != none, true);
        beyond(call + " behind one ACT more than STOP", asked.of(0, 0, 0, stop + 1), none);
        beyond(call + " behind -1 ACTS", asked.of(0, 0, 0, -1), none);
        beyond(call + " behind an ACT of PLAN NONE", asked.of(0, 0, -1, 1), none);
        beyond(call + " behind -1 ACTS of PLAN NONE", asked.of(0, 0, -1, -1), none);
        beyond(call + " of PLAN 1", asked.of(0, 0, 1, 0), none);
        beyond(call + " of PLAN -2", asked.of(0, 0, -2, 0), none);
        beyond(call + " of LAW 1", asked.of(0, 1, 0, 0), none);
        beyond(call + " of LAW -1", asked.of(0, -1, 0, 0), none);
        beyond(call + " of LAKE 1", asked.of(1, 0, 0, 0), none);
        beyond(call + " of LAKE -1", asked.of(-1, 0, 0, 0), none);
    }

    void finish() {
        endSentence();
        for (Map.Entry<String, String> entry : texts.entrySet()) {
            lookForWordsWithoutTest(entry.getKey(), entry.getValue(), quoted.get(entry.getKey()));
        }
        System.out.println(sentences + " sentences, " + answers + " answers, " + wrong + " not as due");
        if (wrong != 0) {
            System.exit(1);
        }
    }

    private void lookForWordsWithoutTest(String name, String text, BitSet marks) {
        for (int i = marks.nextClearBit(0); i < text.length(); i = marks.nextClearBit(i)) {
            int end = marks.nextSetBit(i);
            if (end < 0) {
                end = text.length();
            }
            String left = text.substring(i, end);
            if (left.matches(".*[A-Za-z0-9].*")) {
                fail(name + " has no test for '" + left + "'");
            }
            i = end;
        }
    }
}
