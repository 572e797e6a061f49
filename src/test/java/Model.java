import java.util.ArrayList;
import java.util.List;
import java.util.TreeMap;

/**
 * The document once more, written to be read, not to be quick: WAYS are told one by one, a walk goes mile by mile,
 * every pinch is tried. RandomRunsTest holds the program against it.
 */
final class Model {
    private static final int[] ABOVE = {-1, 0, 0, 1, 0, 2, 4};

    /** What THE IMAGE holds. */
    private static final class State {
        final List<int[]> places = new ArrayList<>();
        final TreeMap<Integer, Integer> roads = new TreeMap<>();
        int flour;
        int wind;
        int seed = 1;

        State twin() {
            State t = new State();
            t.places.addAll(places);
            t.roads.putAll(roads);
            t.flour = flour;
            t.wind = wind;
            t.seed = seed;
            return t;
        }

        int count() {
            return places.size();
        }

        boolean has(int p) {
            return p >= 0 && p < count();
        }

        int miles(int p, int q) {
            return has(p) && has(q) && p != q ? roads.getOrDefault(key(p, q), 0) : 0;
        }

        void lay(int p, int q, int n) {
            if (n == 0) {
                roads.remove(key(p, q));
            } else {
                roads.put(key(p, q), n);
            }
        }
    }

    private State now = new State();
    private State image;
    private final Object[] shelves = new Object[8];
    private final int[] sorts = new int[8];
    private final int[] refusals = new int[8];
    private int fault = -1;

    private static int key(int p, int q) {
        return 100 * Math.min(p, q) + Math.max(p, q);
    }

    private int no(int number) {
        refusals[-number]++;
        return number;
    }

    private int noTen(int number) {
        return no(number) - 10;
    }

    // ---- SHELVES ----

    private long[] rowAt(int s) {
        return shelves[s] instanceof long[] ? (long[]) shelves[s] : null;
    }

    private int shelfRefused(int s) {
        if (s < 0 || s > 7) {
            return -1;
        }
        if (shelves[s] instanceof Integer) {
            return -2;
        }
        return shelves[s] == null ? -3 : 0;
    }

    private int tell(int s, int i) {
        return (int) rowAt(s)[i];
    }

    int row(int s, int sort, int n) {
        if (s < 0 || s > 7) {
            return no(-1);
        }
        if (n < 0) {
            return no(-4);
        }
        if (sort < 0 || sort > 3) {
            return no(-6);
        }
        if (n > 160) {
            return no(-7);
        }
        shelves[s] = new long[n];
        sorts[s] = sort;
        return 1;
    }

    int set(int s, int i, long v) {
        int refused = shelfRefused(s);
        if (refused != 0) {
            return no(refused);
        }
        long[] row = rowAt(s);
        if (i < 0 || i >= row.length) {
            return no(-5);
        }
        int spare = 64 - (8 << sorts[s]);
        row[i] = v << spare >> spare;
        return 1;
    }

    int copy(int p, int q, int i, int j, int n) {
        if (p < 0 || p > 7 || q < 0 || q > 7) {
            return no(-1);
        }
        if (shelves[p] instanceof Integer || shelves[q] instanceof Integer) {
            return no(-2);
        }
        if (shelves[p] != null && shelves[q] != null && sorts[p] != sorts[q]) {
            return no(-2);
        }
        if (shelves[p] == null || shelves[q] == null) {
            return no(-3);
        }
        if (n < 0) {
            return no(-4);
        }
        long[] from = rowAt(p).clone();
        long[] to = rowAt(q);
        if (i < 0 || j < 0 || (long) i + n > from.length || (long) j + n > to.length) {
            return no(-5);
        }
        for (int k = 0; k < n; k++) {
            to[j + k] = from[i + k];
        }
        return 1;
    }

    long element(int s, int i) {
        if (shelfRefused(s) != 0 || i < 0 || i >= rowAt(s).length) {
            return 0;
        }
        return rowAt(s)[i];
    }

    int show(int s, int place) {
        if (s < 0 || s > 7 || (place != -1 && !now.has(place))) {
            return no(-1);
        }
        shelves[s] = place == -1 ? null : (Object) place;
        return place == -1 ? 0 : 1;
    }

    int holds(int s) {
        if (s < 0 || s > 7 || shelves[s] == null) {
            return -1;
        }
        return shelves[s] instanceof Integer ? (Integer) shelves[s] : 100 + sorts[s];
    }

    private static boolean under(int kind, int wanted) {
        for (int k = kind; k != -1; k = ABOVE[k]) {
            if (k == wanted) {
                return true;
            }
        }
        return false;
    }

    int says(int s, int kind) {
        if (s < 0 || s > 7 || kind < 0 || kind > 6) {
            return no(-1);
        }
        if (rowAt(s) != null) {
            return no(-2);
        }
        if (shelves[s] == null) {
            return no(-3);
        }
        int p = (Integer) shelves[s];
        if (!under(now.places.get(p)[0], kind)) {
            return no(-2);
        }
        if (kind == 0) {
            int roads = 0;
            for (int q = 0; q < now.count(); q++) {
                roads += now.miles(p, q) > 0 ? 1 : 0;
            }
            return roads;
        }
        return rate(now, p, new int[] {0, 10, 1, 10, 99, 1, 99}[kind]);
    }

    private static int rate(State s, int p, int n) {
        int kind = s.places.get(p)[0];
        int a = s.places.get(p)[1];
        int free = n / 10;
        int[] asked = {n, n + n, n + a, n + n + n, n - free, n + n + a, n - free == 0 ? 0 : n - free - 1};
        return asked[kind];
    }

    private static int costOf(State s, int p, int q, int n) {
        return Math.max(rate(s, p, n), rate(s, q, n));
    }

    // ---- THE MAP ----

    int place(int kind, int a) {
        if (kind < 0 || kind > 6) {
            return no(-1);
        }
        if (a < 0 || a > 9) {
            return no(-6);
        }
        if (now.count() == 8) {
            return no(-7);
        }
        now.places.add(new int[] {kind, a});
        return now.count() - 1;
    }

    int placeOf(int place, int what) {
        if (!now.has(place) || what < 0 || what > 3) {
            return no(-5);
        }
        int bits = 0;
        int sum = 0;
        for (int q = 0; q < now.count(); q++) {
            bits += now.miles(place, q) > 0 ? 1 << q : 0;
            sum += now.miles(place, q);
        }
        return new int[] {now.places.get(place)[0], now.places.get(place)[1], bits, sum}[what];
    }

    int road(int p, int q, int n) {
        if (!now.has(p) || !now.has(q)) {
            return no(-1);
        }
        if (p == q || n < 0 || n > 999) {
            return no(-6);
        }
        int had = now.miles(p, q);
        now.lay(p, q, n);
        return had;
    }

    int miles(int p, int q) {
        if (!now.has(p) || !now.has(q)) {
            return noTen(-1);
        }
        return p == q ? noTen(-6) : now.miles(p, q);
    }

    int ask(int what, int v) {
        if (what < 0 || what > 1 || v < 0 || v > (what == 0 ? 99_999 : 9)) {
            return no(-6);
        }
        int had = what == 0 ? now.flour : now.wind;
        if (what == 0) {
            now.flour = v;
        } else {
            now.wind = v;
        }
        return had;
    }

    /** Tells a FAULT by its place. */
    private static final class Fault extends Exception {
        private static final long serialVersionUID = 1L;
        final int at;

        Fault(int at) {
            this.at = at;
        }
    }

    private int[] letters;
    private int next;
    private int first;

    int map(int s) {
        int refused = shelfRefused(s);
        if (refused != 0) {
            return no(refused);
        }
        letters = new int[rowAt(s).length];
        for (int i = 0; i < letters.length; i++) {
            letters[i] = tell(s, i);
        }
        next = 0;
        fault = -1;
        State over = now.twin();
        int items = 0;
        try {
            do {
                if (items > 0) {
                    sign(';');
                }
                item(over);
                items++;
            } while (next < letters.length);
        } catch (Fault f) {
            fault = f.at;
            return no(-6);
        }
        now = over;
        return items;
    }

    private void sign(char c) throws Fault {
        if (next == letters.length || letters[next] != c) {
            throw new Fault(next);
        }
        next++;
    }

    private void must(boolean stands) throws Fault {
        if (!stands) {
            throw new Fault(first);
        }
    }

    private int number() throws Fault {
        sign(' ');
        first = next;
        StringBuilder digits = new StringBuilder();
        while (next < letters.length && digits.length() < 5 && letters[next] >= '0' && letters[next] <= '9') {
            digits.append((char) letters[next]);
            next++;
        }
        if (digits.length() == 0) {
            throw new Fault(next);
        }
        return Integer.parseInt(digits.toString());
    }

    private String word() throws Fault {
        List<String> words = new ArrayList<>(List.of("place", "road", "mill", "flour", "wind", "near", "far"));
        for (int i = 0; ; i++) {
            List<String> left = new ArrayList<>();
            for (String w : words) {
                if (next < letters.length && w.charAt(i) == letters[next]) {
                    left.add(w);
                }
            }
            if (left.isEmpty()) {
                throw new Fault(next);
            }
            next++;
            words = left;
            if (words.get(0).length() == i + 1) {
                return words.get(0);
            }
        }
    }

    private void item(State over) throws Fault {
        int start = next;
        String word = word();
        first = start;
        if (word.equals("place")) {
            must(over.count() < 8);
            int kind = number();
            must(kind < 7);
            int a = number();
            must(a < 10);
            over.places.add(new int[] {kind, a});
            return;
        }
        int p = number();
        if (word.equals("flour")) {
            over.flour = p;
            return;
        }
        if (word.equals("wind")) {
            must(p < 10);
            over.wind = p;
            return;
        }
        must(over.has(p));
        int q = number();
        must(over.has(q) && p != q);
        if (word.equals("mill")) {
            must(over.miles(p, q) > 0);
            millIn(over, p, q);
            return;
        }
        int n = number();
        if (word.equals("road")) {
            must(n > 0 && n < 1000);
            over.lay(p, q, n);
            return;
        }
        int signed = word.equals("near") ? -n : n;
        must(may(over, p, q, signed));
        pinchIn(over, p, q, signed);
    }

    int fault() {
        return fault;
    }

    int cost(int p, int q, int n) {
        if (!now.has(p) || !now.has(q)) {
            return no(-1);
        }
        return p == q || n < 1 || n > 998 ? no(-6) : costOf(now, p, q, n);
    }

    private static int yieldIn(State s, int p, int q) {
        int kindP = s.places.get(p)[0];
        int kindQ = s.places.get(q)[0];
        int miles = s.miles(p, q);
        int rest = under(kindP, 1) || under(kindQ, 1) ? miles - miles / 4 : miles;
        return under(kindP, 2) || under(kindQ, 2) ? rest / 2 : rest;
    }

    int yields(int p, int q) {
        if (!now.has(p) || !now.has(q)) {
            return no(-1);
        }
        return now.miles(p, q) == 0 ? no(-6) : yieldIn(now, p, q);
    }

    // ---- WAYS ----

    /** All WAYS from the last of so-far to another, the first by rows of numbers first. */
    private static void ways(State s, List<Integer> soFar, int to, List<List<Integer>> found) {
        int at = soFar.get(soFar.size() - 1);
        if (at == to) {
            found.add(new ArrayList<>(soFar));
            return;
        }
        for (int q = 0; q < s.count(); q++) {
            if (s.miles(at, q) > 0 && !soFar.contains(q)) {
                soFar.add(q);
                ways(s, soFar, to, found);
                soFar.remove(soFar.size() - 1);
            }
        }
    }

    private static int length(State s, List<Integer> way) {
        int sum = 0;
        for (int i = 1; i < way.size(); i++) {
            sum += s.miles(way.get(i - 1), way.get(i));
        }
        return sum;
    }

    private static List<Integer> shortestOf(State s, int p, int q) {
        List<List<Integer>> all = new ArrayList<>();
        ways(s, new ArrayList<>(List.of(p)), q, all);
        List<Integer> best = null;
        for (List<Integer> way : all) {
            if (best == null || length(s, way) < length(s, best)) {
                best = way;
            }
        }
        return best;
    }

    /** AWAYS from one PLACE, by lengthening what is known as long as it gets less. */
    private static int[] aways(State s, int from) {
        int[] away = new int[s.count()];
        java.util.Arrays.fill(away, 10_000);
        away[from] = 0;
        boolean less = true;
        while (less) {
            less = false;
            for (int p = 0; p < away.length; p++) {
                for (int q = 0; q < away.length; q++) {
                    if (away[p] < 10_000 && s.miles(p, q) > 0 && away[p] + s.miles(p, q) < away[q]) {
                        away[q] = away[p] + s.miles(p, q);
                        less = true;
                    }
                }
            }
        }
        return away;
    }

    int away(int p, int q) {
        if (!now.has(p) || !now.has(q)) {
            return noTen(-1);
        }
        List<Integer> way = shortestOf(now, p, q);
        return way == null ? -1 : length(now, way);
    }

    int shortest(int p, int q, int i) {
        if (!now.has(p) || !now.has(q)) {
            return no(-1);
        }
        List<Integer> way = shortestOf(now, p, q);
        if (way == null || i < -1 || i >= way.size()) {
            return no(-5);
        }
        return i == -1 ? way.size() : way.get(i);
    }

    int within(int p, int d) {
        if (!now.has(p)) {
            return no(-1);
        }
        if (d < 0 || d > 9999) {
            return no(-6);
        }
        return reached(now, p, d);
    }

    private static int reached(State s, int p, int d) {
        int bits = 0;
        int[] away = aways(s, p);
        for (int q = 0; q < away.length; q++) {
            bits |= away[q] <= d ? 1 << q : 0;
        }
        return bits;
    }

    private static int parts(State s) {
        int sets = 0;
        int seen = 0;
        for (int p = 0; p < s.count(); p++) {
            if ((seen >> p & 1) == 0) {
                sets++;
                seen |= reached(s, p, 9999);
            }
        }
        return sets;
    }

    int whole(int what) {
        if (what < 0 || what > 3 || (what == 1 && now.count() == 0)) {
            return no(-5);
        }
        if (what == 0) {
            return parts(now);
        }
        if (what == 3) {
            return keep();
        }
        int middle = -1;
        int least = 0;
        int wide = 0;
        for (int p = 0; p < now.count(); p++) {
            int farthest = 0;
            for (int d : aways(now, p)) {
                farthest = Math.max(farthest, d);
                wide = d < 10_000 ? Math.max(wide, d) : wide;
            }
            if (middle == -1 || farthest < least) {
                middle = p;
                least = farthest;
            }
        }
        return what == 1 ? middle : wide;
    }

    /** Takes ROADS away, the longest first, as long as as many sets hang together. */
    private int keep() {
        State s = now.twin();
        int sets = parts(s);
        for (int n = 999; n > 0; n--) {
            for (int road : new ArrayList<>(s.roads.keySet())) {
                if (s.roads.get(road) == n) {
                    s.roads.remove(road);
                    if (parts(s) != sets) {
                        s.roads.put(road, n);
                    }
                }
            }
        }
        int sum = 0;
        for (int n : s.roads.values()) {
            sum += n;
        }
        return sum;
    }

    private static int together(State s) {
        int sum = 0;
        for (int p = 0; p < s.count(); p++) {
            int[] away = aways(s, p);
            for (int q = 0; q < p; q++) {
                sum += away[q];
            }
        }
        return sum;
    }

    private int harmOf(int p, int q) {
        State s = now.twin();
        s.lay(p, q, 0);
        return together(s) - together(now);
    }

    int harm(int p, int q, int what) {
        if (!now.has(p) || !now.has(q)) {
            return no(-1);
        }
        if (what < 0 || what > 1) {
            return no(-5);
        }
        if (now.miles(p, q) == 0) {
            return no(-6);
        }
        if (what == 0) {
            return harmOf(p, q);
        }
        State s = now.twin();
        s.lay(p, q, 0);
        return reached(now, p, 9999) - reached(s, p, 9999);
    }

    int leastHarm() {
        int best = -1;
        int least = Integer.MAX_VALUE;
        for (int road : now.roads.keySet()) {
            int harm = harmOf(road / 100, road % 100);
            if (harm < least) {
                best = road;
                least = harm;
            }
        }
        return best == -1 ? no(-5) : best;
    }

    int cheapest(int p, int q, int d, int what) {
        if (!now.has(p) || !now.has(q)) {
            return noTen(-1);
        }
        if (what < 0 || what > 2) {
            return noTen(-5);
        }
        if (p == q || d < 1 || d > 9999) {
            return noTen(-6);
        }
        if (aways(now, p)[q] <= d) {
            return what == 0 ? 0 : -1;
        }
        int[] best = {-1, -1, -1};
        for (int road : now.roads.keySet()) {
            for (int n = 1; n < now.roads.get(road); n++) {
                State s = now.twin();
                s.roads.put(road, now.roads.get(road) - n);
                int cost = costOf(now, road / 100, road % 100, n);
                if ((best[0] == -1 || cost < best[0]) && aways(s, p)[q] <= d) {
                    best = new int[] {cost, road, n};
                }
            }
        }
        return best[what];
    }

    int meet(int p, int q) {
        if (!now.has(p) || !now.has(q)) {
            return noTen(-1);
        }
        int[] one = aways(now, p);
        int[] two = aways(now, q);
        for (int time = 0; time < 10_000; time++) {
            for (int r = 0; r < one.length; r++) {
                if (one[r] <= time && two[r] <= time) {
                    return r;
                }
            }
        }
        return -1;
    }

    int journey(int p, int q, int s, int n) {
        if (!now.has(p) || !now.has(q)) {
            return noTen(-1);
        }
        int refused = shelfRefused(s);
        if (refused == 0) {
            refused = n < 0 ? -4 : 4L * n > rowAt(s).length ? -5 : n > 10 ? -6 : 0;
        }
        for (int k = 0; refused == 0 && k < n; k++) {
            if (now.miles(tell(s, 4 * k), tell(s, 4 * k + 1)) == 0 || tell(s, 4 * k + 2) == 0
                    || tell(s, 4 * k + 3) < (k == 0 ? 0 : tell(s, 4 * k - 1))) {
                refused = -6;
            }
        }
        return refused == 0 ? walk(p, q, s, n) : noTen(refused);
    }

    /** Mile by mile. */
    private int walk(int p, int q, int s, int n) {
        State land = now.twin();
        int at = p;
        int toward = -1;
        int milesLeft = 0;
        for (int walked = 0; walked <= 9999; walked++) {
            if (toward >= 0 && milesLeft == 0) {
                at = toward;
            }
            if (at == q && milesLeft == 0) {
                return walked;
            }
            for (int k = 0; k < n; k++) {
                if (tell(s, 4 * k + 3) == walked) {
                    int a = tell(s, 4 * k);
                    int b = tell(s, 4 * k + 1);
                    long miles = (long) land.miles(a, b) + tell(s, 4 * k + 2);
                    land.lay(a, b, miles < 1 ? 1 : miles > 999 ? 999 : (int) miles);
                }
            }
            if (milesLeft == 0) {
                List<Integer> way = shortestOf(land, at, q);
                if (way == null) {
                    return -1;
                }
                toward = way.get(1);
                milesLeft = land.miles(at, toward);
            }
            milesLeft--;
        }
        return -2;
    }

    // ---- what is told ----

    private int pairs() {
        int pairs = 0;
        for (int p = 0; p < now.count(); p++) {
            pairs += p;
        }
        return pairs;
    }

    private int tableRefused(int s) {
        int refused = shelfRefused(s);
        return refused == 0 && rowAt(s).length < pairs() ? -5 : refused;
    }

    private long[][] table(int s) {
        int k = 0;
        long[][] t = new long[now.count()][now.count()];
        for (int p = 0; p < t.length; p++) {
            for (int q = p + 1; q < t.length; q++) {
                t[p][q] = tell(s, k);
                t[q][p] = t[p][q];
                k++;
            }
        }
        return t;
    }

    int judge(int s) {
        int refused = tableRefused(s);
        if (refused != 0) {
            return noTen(refused);
        }
        long[][] t = table(s);
        int pair = 0;
        for (int p = 0; p < t.length; p++) {
            for (int q = p + 1; q < t.length; q++) {
                boolean wrong = t[p][q] < 1;
                for (int r = 0; r < t.length; r++) {
                    wrong |= r != p && r != q && t[p][r] + t[r][q] < t[p][q];
                }
                if (wrong) {
                    return pair;
                }
                pair++;
            }
        }
        return -1;
    }

    /** Lessens what is too much until nothing is. */
    int mend(int s) {
        int refused = tableRefused(s);
        for (int k = 0; refused == 0 && k < pairs(); k++) {
            refused = tell(s, k) < 1 || tell(s, k) > 9999 ? -6 : 0;
        }
        if (refused != 0) {
            return no(refused);
        }
        long[][] t = table(s);
        long less = 0;
        boolean wrong = true;
        while (wrong) {
            wrong = false;
            for (int p = 0; p < t.length; p++) {
                for (int q = p + 1; q < t.length; q++) {
                    for (int r = 0; r < t.length; r++) {
                        if (r != p && r != q && t[p][r] + t[r][q] < t[p][q]) {
                            less += t[p][q] - t[p][r] - t[r][q];
                            t[p][q] = t[p][r] + t[r][q];
                            t[q][p] = t[p][q];
                            wrong = true;
                        }
                    }
                }
            }
        }
        return (int) less;
    }

    private static boolean may(State s, int p, int q, int n) {
        if (s.miles(p, q) == 0 || n == 0 || n < -998 || n > 998) {
            return false;
        }
        int miles = s.miles(p, q) + n;
        return miles > 0 && miles < 1000 && s.flour >= costOf(s, p, q, n < 0 ? -n : n);
    }

    private static void pinchIn(State s, int p, int q, int n) {
        s.flour -= costOf(s, p, q, n < 0 ? -n : n);
        s.lay(p, q, s.miles(p, q) + n);
    }

    private static void millIn(State s, int p, int q) {
        s.flour = Math.min(99_999, s.flour + yieldIn(s, p, q));
        s.lay(p, q, 0);
    }

    private State behind;

    private int pinchesRefused(int s, int n) {
        int refused = shelfRefused(s);
        if (refused != 0) {
            return refused;
        }
        return n < 0 ? -4 : 3L * n > rowAt(s).length ? -5 : n > 20 ? -6 : 0;
    }

    private int wrongPinch(int s, int n) {
        behind = now.twin();
        for (int k = 0; k < n; k++) {
            if (!may(behind, tell(s, 3 * k), tell(s, 3 * k + 1), tell(s, 3 * k + 2))) {
                return k;
            }
            pinchIn(behind, tell(s, 3 * k), tell(s, 3 * k + 1), tell(s, 3 * k + 2));
        }
        return -1;
    }

    int pinches(int s, int n) {
        int refused = pinchesRefused(s, n);
        return refused == 0 ? wrongPinch(s, n) : noTen(refused);
    }

    int left(int s, int n) {
        int refused = pinchesRefused(s, n);
        if (refused != 0 || wrongPinch(s, n) != -1) {
            return no(refused == 0 ? -6 : refused);
        }
        return behind.flour;
    }

    int done(int s, int n) {
        int flour = left(s, n);
        if (flour >= 0) {
            now = behind;
        }
        return flour;
    }

    int theft(int s, int what) {
        int refused = tableRefused(s);
        if (refused != 0 || what < 0 || what > 1) {
            return no(refused == 0 ? -5 : refused);
        }
        long[][] t = table(s);
        int roads = 0;
        int first = -1;
        for (int road : now.roads.keySet()) {
            for (int n = 1; n < 100 && n < now.roads.get(road); n++) {
                State thief = now.twin();
                thief.roads.put(road, now.roads.get(road) - n);
                if (tells(t, thief)) {
                    first = first == -1 ? 100 * road + n : first;
                    roads++;
                    break;
                }
            }
        }
        if (what == 0) {
            return roads;
        }
        return first == -1 ? no(-5) : first;
    }

    private static boolean tells(long[][] t, State s) {
        for (int p = 0; p < t.length; p++) {
            int[] away = aways(s, p);
            for (int q = 0; q < p; q++) {
                if (t[p][q] != (away[q] == 10_000 ? -1 : away[q])) {
                    return false;
                }
            }
        }
        return true;
    }

    // ---- IN TRUTH ----

    int mill(int p, int q) {
        if (!now.has(p) || !now.has(q)) {
            return no(-1);
        }
        if (now.miles(p, q) == 0) {
            return no(-6);
        }
        millIn(now, p, q);
        return now.flour;
    }

    int spread(int p, int q, int n) {
        if (!now.has(p) || !now.has(q)) {
            return no(-1);
        }
        if (!may(now, p, q, n)) {
            return no(-6);
        }
        pinchIn(now, p, q, n);
        return now.miles(p, q);
    }

    private int draw(int below) {
        now.seed = now.seed * 1103515245 + 12345;
        return (now.seed >> 16 & 65_535) % below;
    }

    int gale(int n) {
        if (now.count() == 0) {
            return no(-5);
        }
        if (n < 1 || n > 60) {
            return no(-6);
        }
        int more = 0;
        for (int k = 0; k < n; k++) {
            int p = draw(now.count());
            int q = draw(now.count());
            int miles = now.miles(p, q);
            if (miles > 0) {
                int drawn = draw(now.wind + 1);
                now.flour -= Math.min(now.flour, drawn);
                int come = Math.min(drawn, 999 - miles);
                now.lay(p, q, miles + come);
                more += come;
            }
        }
        return more;
    }

    int seed(int v) {
        int had = now.seed;
        now.seed = v;
        return had;
    }

    int image() {
        image = now.twin();
        return now.count();
    }

    int restore() {
        if (image == null) {
            return no(-6);
        }
        now = image.twin();
        for (int s = 0; s < 8; s++) {
            if (shelves[s] instanceof Integer && !now.has((Integer) shelves[s])) {
                shelves[s] = null;
            }
        }
        return now.count();
    }

    int status(int what) {
        if (what >= 11 && what <= 17) {
            return refusals[what - 10];
        }
        int sum = 0;
        for (int n : now.roads.values()) {
            sum += n;
        }
        switch (what) {
            case 0:
                return now.count();
            case 1:
                return now.roads.size();
            case 2:
                return sum;
            case 3:
                return now.flour;
            case 4:
                return now.wind;
            case 5:
                return now.seed;
            default:
                return -1;
        }
    }

    /** Whether a pinch MAY be, without any refusal. */
    boolean mayPinch(int p, int q, int n) {
        return may(now, p, q, n);
    }

    /** MILES of a ROAD, without any refusal. */
    int between(int p, int q) {
        return now.miles(p, q);
    }

    /** The AWAYS now, by pairs; with a pinch on one ROAD where there is one by that number. */
    long[] awaysBehind(int road, int n) {
        State s = now.twin();
        int k = 0;
        for (int r : now.roads.keySet()) {
            if (k == road && now.roads.get(r) > n) {
                s.roads.put(r, now.roads.get(r) - n);
            }
            k++;
        }
        long[] told = new long[pairs()];
        int i = 0;
        for (int p = 0; p < s.count(); p++) {
            int[] away = aways(s, p);
            for (int q = p + 1; q < s.count(); q++) {
                told[i] = away[q] == 10_000 ? -1 : away[q];
                i++;
            }
        }
        return told;
    }
}
