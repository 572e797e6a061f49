import java.util.ArrayList;
import java.util.HashMap;
import java.util.List;
import java.util.Map;
import java.util.Random;
import java.util.regex.Matcher;
import java.util.regex.Pattern;

/**
 * Promises 14 and 15 by the FAULT's definition: the ITEMS that may be are a pattern, made anew of what there is behind
 * each ITEM, and the FAULT is where letters can't go on to any of them. Model only tells what the whole ITEMS change.
 */
public final class FaultTest {
    private static final String LETTERS = "placerodmifuwn 0123456789;x";
    private static final String PLACE = "place";
    /** Keeps the way open up to the NUMBER at which the document wants the FAULT: Q, or N of what MAY not be. */
    private static final String NO_DIGIT = "[0-9](?!)";
    private static final int NO_FAULT = -1;

    private final Random random;
    private final MillOfDistances x = new MillOfDistances();
    private Model m = new Model();
    private final int places;
    private final int[] kinds = new int[8];
    private final int[][] roads = new int[8][8];
    private final int flour;
    private final Map<String, Pattern> known = new HashMap<>();
    private int calls;

    private FaultTest(int run) {
        random = new Random(run);
        places = run % 3 == 0 ? 8 : random.nextInt(8);
        flour = random.nextInt(30);
        for (int p = 0; p < places; p++) {
            kinds[p] = random.nextInt(7);
            for (int q = 0; q < p; q++) {
                roads[q][p] = random.nextBoolean() ? 1 + random.nextInt(12) : 0;
            }
        }
    }

    public static void main(String[] args) {
        int runs = args.length > 0 ? Integer.parseInt(args[0]) : 300;
        for (int run = 0; run < runs; run++) {
            new FaultTest(run).go();
        }
        Due.end();
    }

    private void go() {
        for (int p = 0; p < places; p++) {
            x.place(kinds[p], p);
            for (int q = 0; q < p; q++) {
                x.road(p, q, roads[q][p]);
            }
        }
        x.ask(0, flour);
        x.image();
        String text = text();
        Due.text(x, 0, text);
        calls = 200;
        check(text);
        while (calls < 500 && text.length() > 0) {
            int i = random.nextInt(text.length());
            char c = LETTERS.charAt(random.nextInt(LETTERS.length()));
            x.set(0, i, c);
            check(text.substring(0, i) + c + text.substring(i + 1));
            x.set(0, i, text.charAt(i));
            calls += 2;
        }
    }

    private void check(String text) {
        int due = faultOf(text);
        Due.due("map of '" + text + "'", x.map(0), due == NO_FAULT ? text.split(";", -1).length : -6);
        Due.due("fault of '" + text + "'", x.fault(), due);
        x.restore();
        calls += 3;
    }

    /** A text that may nearly be. */
    private String text() {
        m = fresh();
        StringBuilder text = new StringBuilder();
        for (int items = 1 + random.nextInt(5); items > 0; items--) {
            text.append(text.length() == 0 ? "" : ";").append(item());
        }
        int cut = random.nextInt(3) == 0 ? random.nextInt(text.length()) : text.length();
        return text.substring(0, Math.min(150, cut));
    }

    private String number(int below) {
        String zeros = "0".repeat(random.nextInt(3) == 0 ? random.nextInt(6) : 0);
        return zeros + random.nextInt(Math.max(1, below));
    }

    private String item() {
        int most = places + (random.nextInt(4) == 0 ? 1 : 0);
        String two = " " + number(most) + " " + number(most);
        String[] items = {"place " + number(7) + " " + number(10), "road" + two + " " + number(1001), "mill" + two,
            "flour " + number(40), "wind " + number(10), "near" + two + " " + number(13), "far" + two + " " + number(30)};
        return items[random.nextInt(items.length)];
    }

    private Model fresh() {
        Model model = new Model();
        for (int p = 0; p < places; p++) {
            model.place(kinds[p], p);
            for (int q = 0; q < p; q++) {
                model.road(p, q, roads[q][p]);
            }
        }
        model.ask(0, flour);
        return model;
    }

    // ---- what may be ----

    private static String digits(int n) {
        String told = Integer.toString(n);
        return "0{0," + (5 - told.length()) + "}" + told;
    }

    private static String anyOf(List<String> patterns) {
        return patterns.isEmpty() ? "(?!)" : "(?:" + String.join("|", patterns) + ")";
    }

    private static String upTo(int from, int most) {
        List<String> all = new ArrayList<>();
        for (int n = from; n <= most; n++) {
            all.add(digits(n));
        }
        return anyOf(all);
    }

    private String pinches(String word, int p, int q, int sign) {
        List<String> all = new ArrayList<>(List.of(NO_DIGIT));
        for (int n = 1; n <= 998; n++) {
            if (m.mayPinch(p, q, sign * n)) {
                all.add(digits(n));
            }
        }
        return word + " " + digits(p) + " " + digits(q) + " " + anyOf(all);
    }

    private Pattern items() {
        StringBuilder what = new StringBuilder().append(m.status(0)).append(' ').append(m.status(3));
        for (int p = 0; p < m.status(0); p++) {
            what.append(' ').append(m.placeOf(p, 0)).append(' ').append(m.placeOf(p, 1));
            for (int q = 0; q < p; q++) {
                what.append(' ').append(m.between(p, q));
            }
        }
        return known.computeIfAbsent(what.toString(), key -> newItems());
    }

    /** Without the room a PLACE wants. */
    private Pattern newItems() {
        List<String> all = new ArrayList<>();
        all.add("place " + upTo(0, 6) + " " + upTo(0, 9));
        all.add("flour [0-9]{1,5}");
        all.add("wind " + upTo(0, 9));
        for (int p = 0; p < m.status(0); p++) {
            all.add("(?:road|mill|near|far) " + digits(p) + " " + NO_DIGIT);
            for (int q = 0; q < m.status(0); q++) {
                if (p != q) {
                    all.add("road " + digits(p) + " " + digits(q)
                            + " (?:0{0,4}[1-9]|0{0,3}[1-9][0-9]|0{0,2}[1-9][0-9][0-9])");
                    all.add(m.between(p, q) == 0 ? "(?!)" : "mill " + digits(p) + " " + digits(q));
                    all.add(pinches("near", p, q, -1));
                    all.add(pinches("far", p, q, 1));
                }
            }
        }
        return Pattern.compile(anyOf(all));
    }

    /** Some ITEM begins so, or is this. */
    private static boolean goesOn(Pattern items, String letters) {
        Matcher matcher = items.matcher(letters);
        return matcher.matches() || matcher.hitEnd();
    }

    // ---- where letters can't go on ----

    private int faultOf(String text) {
        m = fresh();
        int start = 0;
        for (String item : text.split(";", -1)) {
            int fault = faultIn(items(), item);
            if (fault != NO_FAULT) {
                return start + fault;
            }
            m.row(0, 0, item.length());
            for (int i = 0; i < item.length(); i++) {
                m.set(0, i, item.charAt(i));
            }
            m.map(0);
            start += item.length() + 1;
        }
        return NO_FAULT;
    }

    /** The place of what stands behind the ITEM, too, where it ends too early. */
    private int faultIn(Pattern items, String item) {
        if (item.startsWith(PLACE) && m.status(0) == 8) {
            return 0;
        }
        int at = 0;
        while (at < item.length() && goesOn(items, item.substring(0, at + 1))) {
            at++;
        }
        if (at == item.length() && items.matcher(item).matches()) {
            return NO_FAULT;
        }
        return numberAt(items, item, at);
    }

    /** The first digit of the NUMBER that letters end with or go on in there, if it may not be; else that place. */
    private static int numberAt(Pattern items, String item, int at) {
        int first = at;
        while (first > 0 && Character.isDigit(item.charAt(first - 1))) {
            first--;
        }
        int end = first;
        while (end < item.length() && end < first + 5 && Character.isDigit(item.charAt(end))) {
            end++;
        }
        boolean isNumber = end > first && first > 0 && item.charAt(first - 1) == ' '
                && goesOn(items, item.substring(0, first));
        String whole = item.substring(0, end);
        boolean may = items.matcher(whole).matches() || goesOn(items, whole + " ");
        return isNumber && !may ? first : at;
    }
}
