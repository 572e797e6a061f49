import java.io.IOException;
import java.nio.charset.StandardCharsets;
import java.nio.file.Files;
import java.nio.file.Path;
import java.util.ArrayList;
import java.util.LinkedHashSet;
import java.util.List;
import java.util.Set;
import java.util.TreeMap;

/**
 * Quotes ../shared/DOC.md a sentence at a time and holds calls against what the sentence says. A quote that doesn't
 * stand there fails, and so does a sentence that nobody quotes. Run from the project's root.
 */
final class Edge {
    interface Mill {
        MillOfDistances made();
    }

    interface Call {
        long on(MillOfDistances x);
    }

    private static final String DOC = read();
    private static final TreeMap<Integer, Set<String>> PROMISES = new TreeMap<>();
    private static final List<String> QUOTED = new ArrayList<>();
    /** Elements that are looked at in each ROW when two mills are held side by side: a mill has only 512 calls. */
    private static final int SEEN_ELEMENTS = 12;
    private static String quoted = "";

    private Edge() {
    }

    private static String read() {
        try {
            String text = Files.readString(Path.of("..", "shared", "DOC.md"), StandardCharsets.UTF_8);
            return text.replace("```text", " ").replace("```", " ").replaceAll("\\s+", " ");
        } catch (IOException e) {
            throw new IllegalStateException(e);
        }
    }

    // ---- the document's sentences ----

    /** Parts that end with a full stop or a semicolon outside of parentheses. */
    private static List<String> sentences(String text) {
        List<String> all = new ArrayList<>();
        StringBuilder now = new StringBuilder();
        int depth = 0;
        for (int i = 0; i < text.length(); i++) {
            char c = text.charAt(i);
            depth += c == '(' ? 1 : c == ')' ? -1 : 0;
            boolean ends = (c == '.' || c == ';') && (i + 1 == text.length() || text.charAt(i + 1) == ' ')
                    && (i == 0 || text.charAt(i - 1) != '.');
            if (ends && depth == 0) {
                all.add(now.toString().trim());
                now.setLength(0);
            } else {
                now.append(c);
            }
        }
        all.add(now.toString().trim());
        all.removeIf(String::isEmpty);
        return all;
    }

    private static Set<String> ofPromise(int n) {
        Set<String> known = PROMISES.get(n);
        if (known == null) {
            int head = DOC.indexOf("## Promise " + n + ": ");
            int from = head < 0 ? -1 : DOC.indexOf("`: ", head);
            int to = from < 0 ? -1 : DOC.indexOf(" ## ", from);
            known = new LinkedHashSet<>(to < 0 ? List.of() : sentences(DOC.substring(from + 3, to)));
            PROMISES.put(n, known);
        }
        return known;
    }

    /** From here on a sentence of a promise is tested. */
    static void promise(int n, String sentence) {
        Set<String> left = ofPromise(n);
        quoted = "promise " + n + ", \"" + sentence + "\": ";
        Due.due(quoted + "stands in the document, and is quoted once", left.remove(sentence) ? 1 : 0, 1);
    }

    /** From here on a part of a promise's sentence is tested. */
    static void part(String of) {
        int colon = quoted.indexOf("\": ");
        Due.due(quoted + of + " stands there", quoted.substring(0, Math.max(0, colon)).contains(of) ? 1 : 0, 1);
        quoted = quoted.substring(0, colon) + "\": " + of + ": ";
    }

    /** From here on some words of the Terms, the REFUSALS or the Details are tested. */
    static void term(String words) {
        QUOTED.add(words);
        quoted = "\"" + words + "\": ";
        Due.due(quoted + "stands in the document", DOC.contains(words) ? 1 : 0, 1);
    }

    /** Every sentence of these promises was quoted. */
    static void allOfPromises(int from, int to) {
        for (int n = from; n <= to; n++) {
            ofPromise(n);
            for (String left : PROMISES.get(n)) {
                Due.due("promise " + n + ", \"" + left + "\" is quoted", 0, 1);
            }
        }
    }

    /** Every sentence from one place of the document to another holds words that were quoted. */
    static void allOfTerms(String from, String to) {
        int start = DOC.indexOf(from);
        int end = DOC.indexOf(to, Math.max(0, start));
        Due.due("the Terms from " + from + " to " + to, start >= 0 && end > start ? 1 : 0, 1);
        for (String sentence : sentences(DOC.substring(start + from.length(), end))) {
            boolean isQuoted = sentence.equals("NONE");
            for (String words : QUOTED) {
                isQuoted |= sentence.contains(words) || words.contains(sentence);
            }
            Due.due("\"" + sentence + "\" is quoted", isQuoted ? 1 : 0, 1);
        }
    }

    // ---- calls ----

    static void due(String call, long got, long want) {
        Due.due(quoted + call, got, want);
    }

    /** Each call, on a mill of its own, is refused: its number counts once more, and all else is as it was. */
    static void refuses(Mill mill, int answer, Call... calls) {
        int number = answer < -10 ? -10 - answer : -answer;
        for (int k = 0; k < calls.length; k++) {
            MillOfDistances x = mill.made();
            int[] before = refusals(x);
            due("refused call " + k, calls[k].on(x), answer);
            int[] after = refusals(x);
            for (int i = 1; i <= 7; i++) {
                due("refused call " + k + ": how many -" + i, after[i] - before[i], i == number ? 1 : 0);
            }
            same("refused call " + k + " changed ", x, mill.made());
        }
    }

    /** A call, on a mill of its own, answers this, refuses nothing and changes nothing. */
    static void asks(Mill mill, long answer, Call call) {
        MillOfDistances x = mill.made();
        MillOfDistances twin = mill.made();
        due("asked", call.on(x), answer);
        int[] before = refusals(twin);
        int[] after = refusals(x);
        for (int i = 1; i <= 7; i++) {
            due("asked: how many -" + i, after[i], before[i]);
        }
        same("asking changed ", x, twin);
    }

    /** A call, on a mill of its own, answers this, whatever it changes. */
    static void gives(Mill mill, long answer, Call call) {
        due("answer", call.on(mill.made()), answer);
    }

    private static int[] refusals(MillOfDistances x) {
        int[] counts = new int[8];
        for (int i = 1; i <= 7; i++) {
            counts[i] = x.status(10 + i);
        }
        return counts;
    }

    /** All that can be seen of two mills but their REFUSALS. Takes THE IMAGE back last. */
    static void same(String what, MillOfDistances x, MillOfDistances twin) {
        due(what + "the FAULT", x.fault(), twin.fault());
        for (int i = 0; i < 4; i++) {
            due(what + "THE TRACE " + i, x.trace(i), twin.trace(i));
        }
        due(what + "bodies", x.status(6), twin.status(6));
        for (int s = 0; s < 8; s++) {
            int held = twin.holds(s);
            due(what + "SHELF " + s, x.holds(s), held);
            for (int i = 0; i < SEEN_ELEMENTS && held >= 100; i++) {
                due(what + "element " + i + " of SHELF " + s, x.element(s, i), twin.element(s, i));
            }
        }
        sameLand(what, x, twin);
        due(what + "THE IMAGE", x.restore(), twin.restore());
        sameLand(what + "THE IMAGE's ", x, twin);
    }

    private static void sameLand(String what, MillOfDistances x, MillOfDistances twin) {
        for (int k = 0; k < 6; k++) {
            due(what + "status " + k, x.status(k), twin.status(k));
        }
        int places = twin.status(0);
        for (int p = 0; p < places; p++) {
            due(what + "KIND of " + p, x.placeOf(p, 0), twin.placeOf(p, 0));
            due(what + "a of " + p, x.placeOf(p, 1), twin.placeOf(p, 1));
            for (int q = 0; q < p; q++) {
                due(what + "MILES of " + q + " and " + p, x.miles(q, p), twin.miles(q, p));
            }
        }
    }

    // ---- mills ----

    static MillOfDistances empty() {
        return new MillOfDistances();
    }

    /** So many PLACES of KIND 0, a 0. */
    static MillOfDistances places(int n) {
        MillOfDistances x = new MillOfDistances();
        for (int p = 0; p < n; p++) {
            x.place(0, 0);
        }
        return x;
    }

    /** Every KIND under its own number, a 7, and one PLACE more. */
    static MillOfDistances kinds() {
        MillOfDistances x = new MillOfDistances();
        for (int kind = 0; kind < 7; kind++) {
            x.place(kind, 7);
        }
        x.place(0, 7);
        return x;
    }

    /**
     * PLACES 0 to 3, 0-1 10, 1-2 20, 2-3 30; FLOUR 500, WIND 4, SEED 77, an IMAGE of another FLOUR; SHELVES: 0 bytes
     * 7 8 9, 1 bytes, two, 2 ints, three, 3 the PLACE 1, 4 NOTHING, 5 ints, 160, 6 longs, 6; a TRACE and a FAULT.
     */
    static MillOfDistances all() {
        MillOfDistances x = places(4);
        x.road(0, 1, 10);
        x.road(1, 2, 20);
        x.road(2, 3, 30);
        x.ask(0, 300);
        x.image();
        x.ask(0, 500);
        x.ask(1, 4);
        x.seed(77);
        row(x, 0, 0, 7, 8, 9);
        x.row(1, 0, 2);
        x.row(2, 2, 3);
        x.show(3, 1);
        x.row(5, 2, 160);
        row(x, 6, 3, 1, 1, 1, 1, 1, 1);
        x.act(1, 2, 5);
        x.map(2);
        return x;
    }

    /** SHELF s holds these elements. */
    static MillOfDistances row(MillOfDistances x, int s, int sort, long... elements) {
        x.row(s, sort, elements.length);
        for (int i = 0; i < elements.length; i++) {
            x.set(s, i, elements[i]);
        }
        return x;
    }

    /** ROADS: P, Q, MILES each. */
    static MillOfDistances roads(MillOfDistances x, int... told) {
        for (int i = 0; i + 2 < told.length; i += 3) {
            x.road(told[i], told[i + 1], told[i + 2]);
        }
        return x;
    }

    /** SHELF 7 holds these letters. */
    static MillOfDistances text(MillOfDistances x, String letters) {
        x.row(7, 0, letters.length());
        for (int i = 0; i < letters.length(); i++) {
            x.set(7, i, letters.charAt(i));
        }
        return x;
    }

    /** A text over what there is stands: so many ITEMS, no FAULT. */
    static MillOfDistances reads(Mill mill, String letters, int items) {
        MillOfDistances x = text(mill.made(), letters);
        due("map of '" + letters + "'", x.map(7), items);
        due("fault of '" + letters + "'", x.fault(), -1);
        return x;
    }

    /** A text over what there is has this FAULT, and nothing of it is told. */
    static void fails(Mill mill, String letters, int fault) {
        MillOfDistances x = text(mill.made(), letters);
        int refused = x.status(16);
        due("map of '" + letters + "'", x.map(7), -6);
        due("fault of '" + letters + "'", x.fault(), fault);
        due("refusals by '" + letters + "'", x.status(16), refused + 1);
        sameLand("'" + letters + "' changed ", x, mill.made());
    }
}
