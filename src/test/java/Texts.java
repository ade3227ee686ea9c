import java.util.ArrayList;
import java.util.List;
import java.util.regex.Matcher;
import java.util.regex.Pattern;

/**
 * A second reader of texts, by patterns over signs for tokens and not token by token as the program's one: so that
 * both are not wrong in the same way.
 */
final class Texts {
    private static final String[][] WORDS = {
        {"size", "all", "ice", "snow", "weak", "crack", "frost", "bear", "shore", "shop"},
        {"least", "apart", "share", "rent", "lane", "bar"},
        {"day", "move", "off", "go", "sweep"},
    };
    /** A sign for each token: a word by its place in WORDS from A on, 9 a NUMBER, others as they are. */
    private static final Pattern[] GRAMMARS = {
        Pattern.compile("(?:(?:A99|B9|[CDE]99|F99|G(?:-?9)(?:-?9)*|H9|I99*|J9999);)*"),
        Pattern.compile("(?:(?:[ABCD]9|E99|F99*);)*"),
        Pattern.compile("(?:(?:A|B99|C9|D999|E9);)*"),
    };
    private static final Pattern TOKEN = Pattern.compile("([a-z]+)|([0-9]+)|([^ \n])");
    /** Of each NUMBER of a line its least and its greatest; of a row all have the first. */
    private static final int[][][] BOUNDS = {
        {{2, 6, 2, 6}, {0, 99}, {0, 35, 0, 99}, {0, 35, 0, 9}, {0, 35, 0, 9}, {0, 35, 0, 35}, {0, 20}, {1, 99}, {0, 35},
            {0, 35, 1, 99, 0, 9, 0, 99}},
        {{0, 99}, {0, 9}, {0, 10}, {0, 99}, {0, 35, 0, 35}, {0, 35}},
        {{}, {0, 5, 0, 35}, {0, 5}, {1, 99, 0, 35, 0, 35}, {0, 35}},
    };

    /** A line: its word and its numbers. */
    static final class Line {
        String word;
        int place;
        final List<Integer> numbers = new ArrayList<>();
        final List<Integer> places = new ArrayList<>();
        final List<Integer> firstPlaces = new ArrayList<>();
    }

    final int sort;
    final String text;
    final List<Line> lines = new ArrayList<>();
    int fault;
    int place = -1;

    Texts(int sortOfText, String ofText) {
        sort = sortOfText;
        text = ofText;
        if (!isOfGrammar()) {
            return;
        }
        split();
        lookAtNumbers();
        if (fault == 0 && sort == 0 && hasCellsAmiss()) {
            fault = 4;
            place = text.length();
        }
    }

    private boolean isOfGrammar() {
        StringBuilder signs = new StringBuilder();
        Matcher tokens = TOKEN.matcher(text);
        while (tokens.find()) {
            signs.append(sign(tokens));
            Matcher m = GRAMMARS[sort].matcher(signs);
            if (!m.matches() && !m.hitEnd()) {
                fault = 1;
                place = tokens.start();
                return false;
            }
        }
        if (!GRAMMARS[sort].matcher(signs).matches()) {
            fault = 1;
            place = text.length();
        }
        return fault == 0;
    }

    private char sign(Matcher token) {
        if (token.group(1) != null) {
            for (int i = 0; i < WORDS[sort].length; i++) {
                if (WORDS[sort][i].equals(token.group(1))) {
                    return (char) ('A' + i);
                }
            }
            return '?';
        }
        if (token.group(2) != null) {
            return token.group(2).length() <= 2 ? '9' : '?';
        }
        char c = token.group(3).charAt(0);
        return c == '-' || c == ';' ? c : '?';
    }

    private void split() {
        Line line = new Line();
        int minus = -1;
        Matcher token = TOKEN.matcher(text);
        while (token.find()) {
            if (token.group(1) != null) {
                line.word = token.group(1);
                line.place = token.start();
            } else if (token.group(2) != null) {
                int number = Integer.parseInt(token.group(2));
                line.numbers.add(minus >= 0 ? -number : number);
                line.places.add(token.start());
                line.firstPlaces.add(minus >= 0 ? minus : token.start());
                minus = -1;
            } else if (token.group(3).equals("-")) {
                minus = token.start();
            } else {
                lines.add(line);
                line = new Line();
            }
        }
    }

    private void found(int which, int where) {
        if (fault == 0 || where < place || where == place && which < fault) {
            fault = which;
            place = where;
        }
    }

    private void lookAtNumbers() {
        int shops = 0;
        int lanes = 0;
        for (int k = 0; k < lines.size(); k++) {
            Line line = lines.get(k);
            shops += line.word.equals("shop") ? 1 : 0;
            lanes += line.word.equals("lane") ? 1 : 0;
            if (line.word.equals("shop") && shops > 6 || line.word.equals("lane") && lanes > 12
                || sort == 2 && k >= 30) {
                found(3, line.place);
            }
            int[] bounds = BOUNDS[sort][List.of(WORDS[sort]).indexOf(line.word)];
            for (int i = 0; i < line.numbers.size(); i++) {
                int b = 2 * i < bounds.length ? 2 * i : 0;
                int number = Math.abs(line.numbers.get(i));
                if (number < bounds[b] || number > bounds[b + 1]) {
                    found(2, line.places.get(i));
                }
                if (line.word.equals("frost") && i >= 12) {
                    found(3, line.firstPlaces.get(i));
                }
            }
            int last = line.numbers.size() - 1;
            boolean twoCells = line.word.equals("crack") || line.word.equals("lane") || line.word.equals("go");
            if (twoCells && line.numbers.get(last).equals(line.numbers.get(last - 1))) {
                found(2, line.places.get(last));
            }
        }
    }

    private boolean hasCellsAmiss() {
        int w = 4;
        int h = 4;
        for (Line line : lines) {
            if (line.word.equals("size")) {
                w = line.numbers.get(0);
                h = line.numbers.get(1);
            }
        }
        List<Integer> shops = new ArrayList<>();
        for (Line line : lines) {
            int cells = line.word.equals("shore") ? line.numbers.size() : line.word.equals("crack") ? 2
                : List.of("ice", "snow", "weak", "shop").contains(line.word) ? 1 : 0;
            for (int i = 0; i < cells; i++) {
                if (line.numbers.get(i) >= w * h) {
                    return true;
                }
            }
            if (line.word.equals("crack")) {
                int a = Math.min(line.numbers.get(0), line.numbers.get(1));
                int b = Math.max(line.numbers.get(0), line.numbers.get(1));
                if (b - a != w && (b - a != 1 || b % w == 0)) {
                    return true;
                }
            }
            if (line.word.equals("shop")) {
                if (shops.contains(line.numbers.get(0))) {
                    return true;
                }
                shops.add(line.numbers.get(0));
            }
        }
        return false;
    }
}
