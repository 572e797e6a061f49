/** Promises 33 to 41, a sentence at a time. */
final class EdgesOfTruth {
    private static final int LEAST = Integer.MIN_VALUE;
    private static final int MOST = Integer.MAX_VALUE;

    private EdgesOfTruth() {
    }

    static void run() {
        promise33();
        promise34();
        promise34Refused();
        promise35();
        promise36();
        promise37();
        promise38();
        promise39();
        promise40();
        promise40Shelves();
        promise41();
        promise41Refusals();
    }

    private static void promise33() {
        Edge.promise(33, "MILL in truth: FLOUR then");
        MillOfDistances x = Edge.all();
        Edge.due("mill", x.mill(2, 3), 530);
        Edge.due("FLOUR", x.status(3), 530);
        Edge.due("the ROAD is gone", x.miles(2, 3), 0);
        Edge.due("ROADS", x.status(1), 2);
        Edge.due("no WAY", x.away(2, 3), -1);
        x.ask(0, 99_979);
        Edge.due("just as much as may be", x.mill(1, 2), 99_999);
        Edge.due("more than may be is lost", x.mill(1, 0), 99_999);
        Edge.gives(() -> Edge.roads(Edge.kinds(), 2, 5, 1), 0, y -> y.mill(2, 5));
        Edge.promise(33, "-1");
        Edge.refuses(Edge::all, -1, y -> y.mill(0, 4), y -> y.mill(4, 0), y -> y.mill(-1, 0), y -> y.mill(0, -1),
                y -> y.mill(4, 4), y -> y.mill(LEAST, MOST));
        Edge.promise(33, "-6 the same, no ROAD");
        Edge.part("the same");
        Edge.refuses(Edge::all, -6, y -> y.mill(0, 0), y -> y.mill(3, 3));
        Edge.part("no ROAD");
        Edge.refuses(Edge::all, -6, y -> y.mill(0, 3), y -> y.mill(2, 0));
        Edge.refuses(() -> Edge.roads(Edge.places(2), 0, 1, 5, 0, 1, 0), -6, y -> y.mill(0, 1));
    }

    private static void promise34() {
        Edge.promise(34, "NEAR (n below 0: by so much), FAR (n above 0) in truth: MILES then");
        MillOfDistances x = Edge.all();
        Edge.due("NEAR by 1", x.spread(0, 1, -1), 9);
        Edge.due("takes 1", x.status(3), 499);
        Edge.due("NEAR by all that may be", x.spread(1, 0, -8), 1);
        Edge.due("takes 8", x.status(3), 491);
        Edge.due("FAR by 1", x.spread(0, 1, 1), 2);
        Edge.due("takes 1", x.status(3), 490);
        Edge.due("FAR by all FLOUR", x.spread(0, 1, 490), 492);
        Edge.due("takes all", x.status(3), 0);
        Edge.due("MILES", x.miles(0, 1), 492);
        x.road(0, 1, 999);
        x.ask(0, 998 + 998);
        Edge.due("NEAR by 998", x.spread(0, 1, -998), 1);
        Edge.due("FAR by 998", x.spread(0, 1, 998), 999);
        Edge.due("takes both", x.status(3), 0);
        Edge.due("another ROAD stays", x.miles(1, 2), 20);
    }

    private static void promise34Refused() {
        Edge.promise(34, "-1");
        Edge.refuses(Edge::all, -1, y -> y.spread(0, 4, 1), y -> y.spread(4, 0, 1), y -> y.spread(-1, 0, 1),
                y -> y.spread(0, -1, 1), y -> y.spread(4, 4, 0), y -> y.spread(LEAST, MOST, LEAST));
        Edge.promise(34, "-6 the same, it MAY not be");
        Edge.part("the same");
        Edge.refuses(Edge::all, -6, y -> y.spread(0, 0, 1), y -> y.spread(3, 3, -1));
        Edge.part("it MAY not be");
        Edge.refuses(Edge::all, -6, y -> y.spread(0, 1, 0), y -> y.spread(0, 1, -10), y -> y.spread(0, 1, 501),
                y -> y.spread(0, 3, 1), y -> y.spread(2, 0, -1), y -> y.spread(0, 1, LEAST), y -> y.spread(0, 1, MOST));
        Edge.refuses(() -> long1(99_999), -6, y -> y.spread(0, 1, 1), y -> y.spread(0, 1, -999));
        Edge.refuses(() -> long1(997), -6, y -> y.spread(0, 1, -998));
        Edge.gives(() -> long1(998), 1, y -> y.spread(0, 1, -998));
        Edge.refuses(() -> long1(0), -6, y -> y.spread(0, 1, -1));
    }

    private static MillOfDistances long1(int flour) {
        MillOfDistances x = Edge.roads(Edge.places(2), 0, 1, 999);
        x.ask(0, flour);
        return x;
    }

    private static int drawn(int[] seed, int below) {
        seed[0] = seed[0] * 1103515245 + 12345;
        return (seed[0] >>> 16) % below;
    }

    private static void promise35() {
        Edge.promise(35, "A GALE of n (1 to 60) draws: how many MILES more");
        for (int n : new int[] {1, 2, 59, 60}) {
            MillOfDistances x = Edge.all();
            int[] seed = {77};
            int more = 0;
            for (int k = 0; k < n; k++) {
                int apart = Math.abs(drawn(seed, 4) - drawn(seed, 4));
                more += apart == 1 ? drawn(seed, 5) : 0;
            }
            Edge.due("gale of " + n, x.gale(n), more);
            Edge.due("all MILES", x.status(2), 60 + more);
            Edge.due("FLOUR", x.status(3), 500 - more);
            Edge.due("SEED", x.status(5), seed[0]);
        }
        Edge.gives(() -> Edge.places(1), 0, x -> x.gale(60));
        Edge.gives(() -> Edge.places(8), 0, x -> x.gale(1));
        Edge.promise(35, "-5 no PLACES");
        Edge.refuses(Edge::empty, -5, x -> x.gale(1), x -> x.gale(60), x -> x.gale(0), x -> x.gale(61));
        Edge.promise(35, "-6");
        Edge.refuses(Edge::all, -6, x -> x.gale(0), x -> x.gale(61), x -> x.gale(-1), x -> x.gale(LEAST),
                x -> x.gale(MOST));
    }

    private static void promise36() {
        Edge.promise(36, "SEED becomes v: what it was (nothing is refused)");
        MillOfDistances x = Edge.empty();
        int[] seeds = {LEAST, MOST, 0, -1, 1, 65_536};
        int was = 1;
        for (int seed : seeds) {
            Edge.due("seed " + seed, x.seed(seed), was);
            Edge.due("is", x.status(5), seed);
            was = seed;
        }
        for (int number = 11; number <= 17; number++) {
            Edge.due("nothing is refused: " + number, x.status(number), 0);
        }
    }

    private static void promise37() {
        Edge.promise(37, "An ACT of a PLACE with x");
        Edge.gives(Edge::kinds, 5, x -> x.act(0, 0, 5));
        Edge.gives(Edge::kinds, 12, x -> x.act(7, 0, 5));
        Edge.gives(Edge::kinds, 10, x -> x.act(0, 1, 5));
        Edge.gives(Edge::kinds, 10 ^ -2, x -> x.act(0, 2, 5));
        Edge.gives(Edge::kinds, LEAST + 6, x -> x.act(7, 0, MOST));
        Edge.promise(37, "0, and no TRACE then: no such PLACE, act");
        int[][] none = {{4, 0}, {-1, 0}, {LEAST, 0}, {MOST, 2}, {0, 3}, {0, -1}, {3, LEAST}, {3, MOST}, {4, 3}};
        for (int[] of : none) {
            MillOfDistances x = Edge.all();
            Edge.due("a TRACE", x.trace(0), 12);
            Edge.due("act " + of[0] + " " + of[1], x.act(of[0], of[1], 5), 0);
            Edge.due("no TRACE", x.trace(0), -1);
            Edge.due("no bodies", x.status(6), 0);
            Edge.due("nothing is refused", x.status(11) + x.status(15) + x.status(16), 1);
        }
        Edge.gives(Edge::empty, 0, x -> x.act(0, 0, 5));
    }

    private static void promise38() {
        Edge.promise(38, "THE TRACE's i-th body");
        int[] bodies = {12, 11, 10, 10};
        for (int i = 0; i < 4; i++) {
            int of = i;
            Edge.asks(Edge::all, bodies[i], x -> x.trace(of));
        }
        int[] longest = {50, 12, 71, 11, 70, 51, 10, 70, 51, 10};
        MillOfDistances y = Edge.kinds();
        y.act(6, 2, 5);
        for (int i = 0; i < longest.length; i++) {
            Edge.due("of a CITY that blows: " + i, y.trace(i), longest[i]);
        }
        Edge.due("of a CITY that blows: no more", y.trace(10), -1);
        Edge.promise(38, "NONE: none such");
        Edge.asks(Edge::all, -1, x -> x.trace(4));
        Edge.asks(Edge::all, -1, x -> x.trace(-1));
        Edge.asks(Edge::all, -1, x -> x.trace(19));
        Edge.asks(Edge::all, -1, x -> x.trace(20));
        Edge.asks(Edge::all, -1, x -> x.trace(LEAST));
        Edge.asks(Edge::all, -1, x -> x.trace(MOST));
        Edge.asks(Edge::empty, -1, x -> x.trace(0));
    }

    private static void promise39() {
        Edge.promise(39, "THE IMAGE of all but SHELVES (and THE IMAGE, REFUSALS, the FAULT, THE TRACE) is taken:"
                + " how many PLACES");
        Edge.gives(Edge::empty, 0, x -> x.image());
        Edge.gives(Edge::all, 4, x -> x.image());
        Edge.gives(() -> Edge.places(8), 8, x -> x.image());
        MillOfDistances x = Edge.all();
        Edge.due("image", x.image(), 4);
        x.image();
        x.row(0, 3, 2);
        x.show(3, 0);
        x.show(5, -1);
        x.away(9, 9);
        x.act(2, 0, 1);
        Edge.text(x, "wind 1x");
        x.map(7);
        Edge.due("restore", x.restore(), 4);
        Edge.due("no SHELF of it: a ROW", x.holds(0), 103);
        Edge.due("no SHELF of it: a PLACE", x.holds(3), 0);
        Edge.due("no SHELF of it: NOTHING", x.holds(5), -1);
        Edge.due("no REFUSALS of it", x.status(11), 1);
        Edge.due("no FAULT of it", x.fault(), 6);
        Edge.due("no TRACE of it", x.trace(0), 10);
        Edge.due("nor how many bodies", x.status(6), 1);
    }

    private static void promise40() {
        Edge.promise(40, "All is as THE IMAGE has it");
        MillOfDistances x = Edge.all();
        x.image();
        x.place(6, 9);
        x.road(4, 0, 8);
        x.road(0, 1, 0);
        x.spread(1, 2, 5);
        x.ask(1, 9);
        x.gale(9);
        x.mill(2, 3);
        MillOfDistances twin = Edge.all();
        twin.image();
        Edge.due("restore", x.restore(), 4);
        Edge.same("all: ", x, twin);
        x.place(5, 1);
        Edge.due("a new PLACE has no older ROADS", x.placeOf(4, 2), 0);
        Edge.due("restore again", x.restore(), 4);
        Edge.due("as often as one likes", x.status(0), 4);
        MillOfDistances y = Edge.empty();
        y.image();
        y.place(0, 0);
        y.ask(0, 9);
        y.seed(9);
        Edge.due("an empty IMAGE", y.restore(), 0);
        Edge.due("no PLACES", y.status(0), 0);
        Edge.due("no FLOUR", y.status(3), 0);
        Edge.due("SEED", y.status(5), 1);
        Edge.due("no PLACE to grind", y.act(0, 0, 4), 0);
        Edge.promise(40, "-6 there is none");
        Edge.refuses(Edge::empty, -6, z -> z.restore());
        Edge.refuses(() -> Edge.places(8), -6, z -> z.restore());
    }

    private static void promise40Shelves() {
        Edge.promise(40, "SHELVES with PLACES hold those of these numbers, or NOTHING: how many PLACES");
        MillOfDistances x = Edge.places(3);
        x.image();
        for (int s = 0; s < 5; s++) {
            x.place(1, s);
            x.show(s, s + 1);
        }
        x.show(5, 7);
        x.row(6, 1, 4);
        Edge.due("restore", x.restore(), 3);
        int[] held = {1, 2, -1, -1, -1, -1, 101, -1};
        for (int s = 0; s < 8; s++) {
            Edge.due("SHELF " + s, x.holds(s), held[s]);
        }
        x.place(4, 4);
        Edge.due("NOTHING, though there is such a number again", x.holds(2), -1);
        MillOfDistances y = Edge.empty();
        y.place(6, 0);
        y.image();
        MillOfDistances more = Edge.places(2);
        more.show(0, 1);
        more.image();
        more.show(1, 0);
        Edge.due("to one of as many", more.restore(), 2);
        Edge.due("the PLACE stays", more.holds(0), 1);
        Edge.due("the other, too", more.holds(1), 0);
        more.place(0, 0);
        for (int s = 0; s < 8; s++) {
            more.show(s, 2);
        }
        Edge.due("to one of fewer", more.restore(), 2);
        for (int s = 0; s < 8; s++) {
            Edge.due("NOTHING in SHELF " + s, more.holds(s), -1);
        }
        y.place(1, 0);
        y.show(7, 0);
        Edge.due("restore of one", y.restore(), 1);
        Edge.due("the number is there", y.holds(7), 0);
        Edge.due("and what it says is THE IMAGE's", y.says(7, 6), 89);
    }

    private static void promise41() {
        Edge.promise(41, "How many: 0 PLACES, 1 ROADS, 2 all MILES, 3 FLOUR, 4 WIND, 5 SEED, 6 bodies that ran in the latest"
                + " act() (all, kept or not)");
        int[] first = {0, 0, 0, 0, 0, 1, 0};
        int[] then = {4, 3, 60, 500, 4, 77, 4};
        for (int what = 0; what < 7; what++) {
            int of = what;
            Edge.asks(Edge::empty, first[what], x -> x.status(of));
            Edge.asks(Edge::all, then[what], x -> x.status(of));
        }
        MillOfDistances x = Edge.places(8);
        int roads = 0;
        for (int p = 0; p < 8; p++) {
            for (int q = 0; q < p; q++) {
                x.road(p, q, 999);
                roads++;
            }
        }
        Edge.due("as many ROADS as can be", x.status(1), roads);
        Edge.due("as many MILES as can be", x.status(2), 28 * 999);
        Edge.promise(41, "NONE for another what");
        for (int what : new int[] {-1, 7, 8, 9, 10, 18, 19, LEAST, MOST}) {
            Edge.asks(Edge::all, -1, y -> y.status(what));
        }
    }

    private static void promise41Refusals() {
        Edge.promise(41, "11 to 17: REFUSALS -1 to -7");
        MillOfDistances x = Edge.places(8);
        x.show(0, 0);
        x.row(1, 2, 1);
        Edge.Call[] refused = {y -> y.away(0, 8), y -> y.map(0), y -> y.map(2), y -> y.pinches(1, -1), y -> y.set(1, 1, 0),
            y -> y.miles(1, 1), y -> y.place(0, 0)};
        for (int number = 1; number <= 7; number++) {
            for (int times = 0; times < 3; times++) {
                Edge.due("-" + number, x.status(10 + number), times);
                long answer = refused[number - 1].on(x);
                Edge.due("is the answer", answer < -10 ? answer + 10 : answer, -number);
            }
        }
        for (int number = 1; number <= 7; number++) {
            Edge.due("three of each", x.status(10 + number), 3);
        }
    }
}
