import java.util.Random;

/** Promises 2 to 36 and 39 to 41 by runs of drawn calls, each held against Model. At most 500 calls an object. */
public final class RandomRunsTest {
    private final Random random;
    private final MillOfDistances x = new MillOfDistances();
    private final Model m = new Model();
    private final String name;
    private int calls;

    private RandomRunsTest(int run) {
        random = new Random(run);
        name = "run " + run + ": ";
    }

    public static void main(String[] args) {
        int runs = args.length > 0 ? Integer.parseInt(args[0]) : 400;
        for (int run = 0; run < runs; run++) {
            new RandomRunsTest(run).go(run);
        }
        Due.end();
    }

    private void go(int run) {
        int places = run % 9;
        for (int p = 0; p < places; p++) {
            placeCall(random.nextInt(7), random.nextInt(10));
        }
        int most = below(3) == 0 ? 999 : below(2) == 0 ? 60 : 6;
        for (int r = below(30); r > 0; r--) {
            roadCall(below(Math.max(1, places)), below(Math.max(1, places)), 1 + below(most));
        }
        if (below(4) > 0) {
            int flour = below(3) == 0 ? 99_000 + below(1000) : below(3000);
            check("ask", x.ask(0, flour), m.ask(0, flour));
        }
        while (calls < 440) {
            step();
        }
        for (int what = 0; what < 19; what++) {
            if (what != 6) {
                check("status " + what, x.status(what), m.status(what));
            }
        }
    }

    private void check(String call, long got, long want) {
        calls++;
        Due.due(name + call, got, want);
    }

    private int below(int n) {
        return random.nextInt(n);
    }

    /** A number from 0 on, seldom one that is just not. */
    private int about(int n) {
        int k = below(40);
        return k == 0 ? -1 : k == 1 ? n : k == 2 ? random.nextInt() : below(Math.max(1, n));
    }

    private int aPlace() {
        return about(m.status(0));
    }

    private int aShelf() {
        return about(8);
    }

    private void placeCall(int kind, int a) {
        check("place " + kind + " " + a, x.place(kind, a), m.place(kind, a));
    }

    private void roadCall(int p, int q, int n) {
        check("road " + p + " " + q + " " + n, x.road(p, q, n), m.road(p, q, n));
    }

    private void fill(int s, int sort, long... elements) {
        check("row " + s, x.row(s, sort, elements.length), m.row(s, sort, elements.length));
        for (int i = 0; i < elements.length; i++) {
            check("set " + s, x.set(s, i, elements[i]), m.set(s, i, elements[i]));
        }
    }

    private void step() {
        switch (below(12)) {
            case 0:
            case 1:
                shelfCall();
                break;
            case 2:
                mapCall();
                break;
            case 3:
            case 4:
                landCall();
                break;
            case 5:
            case 6:
            case 7:
                wayCall();
                break;
            case 8:
                tableCall();
                break;
            case 9:
                pinchCall();
                break;
            case 10:
                journeyCall();
                break;
            default:
                truthCall();
                break;
        }
    }

    private void shelfCall() {
        int s = aShelf();
        switch (below(7)) {
            case 0:
                int sort = about(4);
                int n = below(8) == 0 ? 158 + below(5) : about(9);
                check("row " + s + " " + sort + " " + n, x.row(s, sort, n), m.row(s, sort, n));
                break;
            case 1:
                int i = about(9);
                long v = below(2) == 0 ? random.nextLong() : below(300);
                check("set " + s + " " + i + " " + v, x.set(s, i, v), m.set(s, i, v));
                break;
            case 2:
                copyCall(s, aShelf(), about(6), about(6), about(4));
                break;
            case 3:
                int p = below(6) == 0 ? -1 : aPlace();
                check("show " + s + " " + p, x.show(s, p), m.show(s, p));
                break;
            case 4:
                check("holds " + s, x.holds(s), m.holds(s));
                break;
            case 5:
                int kind = about(7);
                check("says " + s + " " + kind, x.says(s, kind), m.says(s, kind));
                break;
            default:
                int e = about(9);
                check("element " + s + " " + e, x.element(s, e), m.element(s, e));
                break;
        }
    }

    private void copyCall(int p, int q, int i, int j, int n) {
        String call = "copy " + p + " " + q + " " + i + " " + j + " " + n;
        check(call, x.copy(p, q, i, j, n), m.copy(p, q, i, j, n));
        for (int k = 0; k < 3; k++) {
            check("copied " + k, x.element(q, k), m.element(q, k));
        }
    }

    private void landCall() {
        int p = aPlace();
        int q = aPlace();
        int what = about(4);
        switch (below(8)) {
            case 0:
                placeCall(about(7), about(10));
                break;
            case 1:
            case 2:
                roadCall(p, q, below(3) == 0 ? about(1000) : about(40));
                break;
            case 3:
                check("placeOf " + p + " " + what, x.placeOf(p, what), m.placeOf(p, what));
                break;
            case 4:
                check("miles " + p + " " + q, x.miles(p, q), m.miles(p, q));
                break;
            case 5:
                int which = about(2);
                int v = which == 0 ? about(100_000) : about(10);
                check("ask " + which + " " + v, x.ask(which, v), m.ask(which, v));
                break;
            case 6:
                int n = below(2) == 0 ? about(999) : about(30);
                check("cost " + p + " " + q + " " + n, x.cost(p, q, n), m.cost(p, q, n));
                break;
            default:
                check("yields " + p + " " + q, x.yields(p, q), m.yields(p, q));
                break;
        }
    }

    private void wayCall() {
        int p = aPlace();
        int q = aPlace();
        String two = " " + p + " " + q;
        switch (below(9)) {
            case 0:
                check("away" + two, x.away(p, q), m.away(p, q));
                break;
            case 1:
                int i = below(3) - 1 + below(2) * below(6);
                check("shortest" + two + " " + i, x.shortest(p, q, i), m.shortest(p, q, i));
                break;
            case 2:
                int d = below(4) == 0 ? about(10_000) : about(60);
                check("within " + p + " " + d, x.within(p, d), m.within(p, d));
                break;
            case 3:
            case 4:
                int part = about(4);
                check("whole " + part, x.whole(part), m.whole(part));
                break;
            case 5:
                int what = about(2);
                check("harm" + two + " " + what, x.harm(p, q, what), m.harm(p, q, what));
                break;
            case 6:
                check("leastHarm", x.leastHarm(), m.leastHarm());
                break;
            case 7:
                int near = below(4) == 0 ? about(10_000) : about(60);
                int of = about(3);
                check("cheapest" + two + " " + near + " " + of, x.cheapest(p, q, near, of), m.cheapest(p, q, near, of));
                break;
            default:
                check("meet" + two, x.meet(p, q), m.meet(p, q));
                break;
        }
    }

    private String word() {
        return new String[] {"place", "road", "mill", "flour", "wind", "near", "far", "road", "road"}[below(9)];
    }

    private String item() {
        String word = word();
        int p = below(Math.max(2, m.status(0)));
        int q = below(Math.max(2, m.status(0) + below(2)));
        switch (word) {
            case "place":
                return word + " " + below(7) + " " + below(10);
            case "flour":
                return word + " " + below(100_000);
            case "wind":
                return word + " " + below(10);
            case "mill":
                return word + " " + p + " " + q;
            case "road":
                return word + " " + p + " 0" + q + " " + (1 + below(999));
            default:
                return word + " " + p + " " + q + " " + (1 + below(30));
        }
    }

    private void mapCall() {
        StringBuilder text = new StringBuilder(item());
        for (int more = below(3); more > 0; more--) {
            text.append(";").append(item());
        }
        int at = below(text.length());
        switch (below(8)) {
            case 0:
                text.setCharAt(at, "placerodmifuwnd0123456789 ;".charAt(below(27)));
                break;
            case 1:
                text.setLength(at);
                break;
            case 2:
                text.insert(at, "01 ;9x".charAt(below(6)));
                break;
            case 3:
                text.deleteCharAt(at);
                break;
            default:
                break;
        }
        long[] letters = new long[text.length()];
        for (int i = 0; i < letters.length; i++) {
            letters[i] = text.charAt(i);
        }
        fill(7, below(4), letters);
        check("map " + text, x.map(7), m.map(7));
        check("fault of " + text, x.fault(), m.fault());
        check("miles behind " + text, x.status(2), m.status(2));
        check("flour behind " + text, x.status(3), m.status(3));
        int s = aShelf();
        check("map " + s, x.map(s), m.map(s));
        check("fault " + s, x.fault(), m.fault());
    }

    private void tableCall() {
        int n = below(6) == 0 ? below(100) : 1 + below(12);
        long[] told = m.awaysBehind(below(12), n);
        if (told.length > 0 && below(4) == 0) {
            told[below(told.length)] += below(5) - 2;
        }
        if (told.length > 0 && below(12) == 0) {
            told = java.util.Arrays.copyOf(told, told.length - 1);
        }
        fill(6, 2 + below(2), told);
        int s = below(10) == 0 ? aShelf() : 6;
        int what = about(2);
        check("theft " + s + " " + what, x.theft(s, what), m.theft(s, what));
        check("theft first", x.theft(6, 1), m.theft(6, 1));
        check("theft count", x.theft(6, 0), m.theft(6, 0));
        check("judge " + s, x.judge(s), m.judge(s));
        check("mend " + s, x.mend(s), m.mend(s));
        if (told.length > 0) {
            for (int k = 0; k < 3; k++) {
                int i = below(told.length);
                long v = below(8) == 0 ? below(20_000) - 5000 : 1 + below(60);
                check("set in the table", x.set(6, i, v), m.set(6, i, v));
            }
            check("judge", x.judge(6), m.judge(6));
            check("mend", x.mend(6), m.mend(6));
        }
    }

    private void pinchCall() {
        int n = below(5);
        long[] told = new long[3 * n];
        for (int k = 0; k < n; k++) {
            told[3 * k] = aPlace();
            told[3 * k + 1] = below(Math.max(1, m.status(0)));
            told[3 * k + 2] = below(8) == 0 ? below(2100) - 1050 : below(20) - 10;
        }
        fill(5, below(4), told);
        int s = below(10) == 0 ? aShelf() : 5;
        int first = below(6) == 0 ? about(30) : n;
        String told2 = " " + java.util.Arrays.toString(told);
        check("pinches" + told2, x.pinches(s, first), m.pinches(s, first));
        check("left" + told2, x.left(s, first), m.left(s, first));
        if (below(2) == 0) {
            check("done" + told2, x.done(s, first), m.done(s, first));
            check("miles behind" + told2, x.status(2), m.status(2));
        }
    }

    private void journeyCall() {
        int n = below(6);
        long[] told = new long[4 * n];
        int behind = 0;
        int far = below(2) == 0 ? 12 : 400;
        for (int k = 0; k < n; k++) {
            told[4 * k] = below(Math.max(1, m.status(0)));
            told[4 * k + 1] = below(Math.max(1, m.status(0)));
            for (int tries = 0; tries < 20 && m.between((int) told[4 * k], (int) told[4 * k + 1]) == 0; tries++) {
                told[4 * k] = below(Math.max(1, m.status(0)));
                told[4 * k + 1] = below(Math.max(1, m.status(0)));
            }
            told[4 * k + 2] = below(30) == 0 ? 0 : below(2 * far) - far;
            behind += below(30) == 0 ? -1 : below(far / 2);
            told[4 * k + 3] = behind;
        }
        fill(4, 1 + below(3), told);
        for (int k = 0; k < 3; k++) {
            int p = aPlace();
            int q = aPlace();
            int s = below(12) == 0 ? aShelf() : 4;
            int first = below(8) == 0 ? about(12) : n;
            check("journey " + p + " " + q + " " + java.util.Arrays.toString(told), x.journey(p, q, s, first),
                    m.journey(p, q, s, first));
        }
    }

    private void truthCall() {
        int p = aPlace();
        int q = aPlace();
        String two = " " + p + " " + q;
        switch (below(8)) {
            case 0:
                check("mill" + two, x.mill(p, q), m.mill(p, q));
                check("flour", x.status(3), m.status(3));
                break;
            case 1:
            case 2:
            case 3:
                int n = below(5) == 0 ? below(2100) - 1050 : below(20) - 10;
                check("spread" + two + " " + n, x.spread(p, q, n), m.spread(p, q, n));
                break;
            case 4:
                int draws = about(61);
                check("gale " + draws, x.gale(draws), m.gale(draws));
                check("seed", x.status(5), m.status(5));
                check("flour", x.status(3), m.status(3));
                break;
            case 5:
                int v = random.nextInt();
                check("seed " + v, x.seed(v), m.seed(v));
                break;
            case 6:
                check("image", x.image(), m.image());
                break;
            default:
                check("restore", x.restore(), m.restore());
                check("holds 0", x.holds(0), m.holds(0));
                break;
        }
    }
}
