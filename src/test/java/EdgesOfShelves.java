/** Promises 1 to 8, a sentence at a time. */
final class EdgesOfShelves {
    private static final int LEAST = Integer.MIN_VALUE;
    private static final int MOST = Integer.MAX_VALUE;

    private EdgesOfShelves() {
    }

    static void run() {
        promise1();
        promise2();
        promise2Refused();
        promise3();
        promise3Refused();
        promise4();
        promise4Refused();
        promise4Beyond();
        promise5();
        promise6();
        promise7();
        promise8();
        promise8Refused();
    }

    private static void promise1() {
        Edge.promise(1, "No PLACES, no FLOUR");
        Edge.asks(Edge::empty, 0, x -> x.status(0));
        Edge.asks(Edge::empty, 0, x -> x.status(3));
        Edge.refuses(Edge::empty, -5, x -> x.placeOf(0, 0));
        Edge.gives(Edge::empty, 0, x -> x.ask(0, 1));
        Edge.gives(Edge::empty, 0, x -> x.place(0, 0));
    }

    private static void promise2() {
        Edge.promise(2, "SHELF s holds a new ROW: 1");
        for (int sort = 0; sort < 4; sort++) {
            int of = sort;
            MillOfDistances x = Edge.all();
            Edge.due("no elements", x.row(0, of, 0), 1);
            Edge.due("is there", x.holds(0), 100 + of);
            Edge.due("has none", x.element(0, 0), 0);
            Edge.due("can't be set", x.set(0, 0, 1), -5);
            Edge.due("one element", x.row(0, of, 1), 1);
            Edge.due("is 0", x.element(0, 0), 0);
            Edge.due("can be set", x.set(0, 0, 1), 1);
            Edge.due("no second", x.set(0, 1, 1), -5);
            Edge.due("160 elements", x.row(7, of, 160), 1);
            Edge.due("the last can be set", x.set(7, 159, 1), 1);
            Edge.due("over a PLACE", x.row(3, of, 2), 1);
            Edge.due("no PLACE any more", x.holds(3), 100 + of);
            Edge.due("can be set, too", x.set(3, 1, 9), 1);
            Edge.due("is", x.element(3, 1), 9);
        }
        MillOfDistances y = Edge.all();
        for (int i = 0; i < 160; i++) {
            y.set(5, i, 99);
        }
        Edge.due("a new ROW over a full one", y.row(5, 2, 160), 1);
        for (int i = 0; i < 160; i++) {
            Edge.due("its element " + i, y.element(5, i), 0);
        }
    }

    private static void promise2Refused() {
        Edge.promise(2, "-1");
        Edge.refuses(Edge::all, -1, x -> x.row(-1, 0, 1), x -> x.row(8, 0, 1), x -> x.row(LEAST, 0, 1),
                x -> x.row(MOST, 0, 1), x -> x.row(-1, 4, -1), x -> x.row(8, -1, 161));
        Edge.promise(2, "-4");
        Edge.refuses(Edge::all, -4, x -> x.row(0, 0, -1), x -> x.row(4, 3, LEAST), x -> x.row(3, 1, -160),
                x -> x.row(0, 4, -1));
        Edge.promise(2, "-6 SORT");
        Edge.refuses(Edge::all, -6, x -> x.row(0, -1, 1), x -> x.row(3, 4, 1), x -> x.row(4, LEAST, 0),
                x -> x.row(4, MOST, 160), x -> x.row(0, 4, 161));
        Edge.gives(Edge::all, 1, x -> x.row(0, 0, 1));
        Edge.gives(Edge::all, 1, x -> x.row(0, 3, 1));
        Edge.promise(2, "-7 n above 160");
        Edge.refuses(Edge::all, -7, x -> x.row(0, 0, 161), x -> x.row(3, 3, 161), x -> x.row(4, 2, MOST));
        Edge.gives(Edge::all, 1, x -> x.row(0, 0, 160));
    }

    private static void promise3() {
        Edge.promise(3, "Element i of the ROW becomes v: 1");
        MillOfDistances x = Edge.all();
        Edge.due("the first", x.set(0, 0, -128), 1);
        Edge.due("the last", x.set(0, 2, 127), 1);
        Edge.due("the first is", x.element(0, 0), -128);
        Edge.due("that between stays", x.element(0, 1), 8);
        Edge.due("the last is", x.element(0, 2), 127);
        Edge.due("the last of 160", x.set(5, 159, MOST), 1);
        Edge.due("is", x.element(5, 159), MOST);
        Edge.due("a long", x.set(6, 5, Long.MIN_VALUE), 1);
        Edge.due("is whole", x.element(6, 5), Long.MIN_VALUE);
    }

    private static void promise3Refused() {
        Edge.promise(3, "-1");
        Edge.refuses(Edge::all, -1, x -> x.set(-1, 0, 5), x -> x.set(8, 0, 5), x -> x.set(LEAST, -1, 5),
                x -> x.set(MOST, 200, 5));
        Edge.promise(3, "-2");
        Edge.refuses(Edge::all, -2, x -> x.set(3, 0, 5), x -> x.set(3, -1, 5), x -> x.set(3, 160, 5));
        Edge.promise(3, "-3");
        Edge.refuses(Edge::all, -3, x -> x.set(4, 0, 5), x -> x.set(4, -1, 5), x -> x.set(7, 160, 5));
        Edge.promise(3, "-5");
        Edge.refuses(Edge::all, -5, x -> x.set(0, -1, 5), x -> x.set(0, 3, 5), x -> x.set(0, 159, 5),
                x -> x.set(5, 160, 5), x -> x.set(5, LEAST, 5), x -> x.set(5, MOST, 5));
        Edge.refuses(() -> Edge.row(Edge.empty(), 0, 0), -5, x -> x.set(0, 0, 5));
    }

    private static void holds(String what, MillOfDistances x, int s, long... elements) {
        for (int i = 0; i < elements.length; i++) {
            Edge.due(what + ", element " + i, x.element(s, i), elements[i]);
        }
    }

    private static void promise4() {
        Edge.promise(4, "Elements i, i + 1, .. of the ROW in SHELF p, n of them, come to elements j, j + 1, .. of that"
                + " in q (as they were ahead): 1");
        MillOfDistances x = Edge.all();
        Edge.due("of the first to the last", x.copy(0, 1, 0, 1, 1), 1);
        holds("so", x, 1, 0, 7);
        Edge.due("of the last two", x.copy(0, 1, 1, 0, 2), 1);
        holds("then", x, 1, 8, 9);
        Edge.due("of none", x.copy(0, 1, 0, 0, 0), 1);
        Edge.due("of none at both ends", x.copy(0, 1, 3, 2, 0), 1);
        holds("none came", x, 1, 8, 9);
        Edge.due("forwards in one ROW", x.copy(0, 0, 0, 1, 2), 1);
        holds("as they were ahead", x, 0, 7, 7, 8);
        Edge.row(x, 0, 0, 7, 8, 9);
        Edge.due("backwards in one ROW", x.copy(0, 0, 1, 0, 2), 1);
        holds("as they were ahead", x, 0, 8, 9, 9);
        Edge.due("a ROW to its own place", x.copy(0, 0, 0, 0, 3), 1);
        holds("stays", x, 0, 8, 9, 9);
        for (int i = 0; i < 160; i++) {
            x.set(5, i, i + 1);
        }
        x.row(2, 2, 160);
        Edge.due("of all 160", x.copy(5, 2, 0, 0, 160), 1);
        holds("the first of them", x, 2, 1, 2, 3);
        Edge.due("the last of them", x.element(2, 159), 160);
        x.set(5, 0, 1000);
        holds("the copy is its own", x, 2, 1);
    }

    private static void promise4Refused() {
        Edge.promise(4, "-1");
        Edge.refuses(Edge::all, -1, x -> x.copy(-1, 0, 0, 0, 1), x -> x.copy(0, -1, 0, 0, 1), x -> x.copy(8, 0, 0, 0, 1),
                x -> x.copy(0, 8, 0, 0, 1), x -> x.copy(3, LEAST, -1, 0, -1), x -> x.copy(MOST, 4, 0, 0, -1));
        Edge.promise(4, "-2 also of two SORTS (when both hold something)");
        Edge.part("of two SORTS");
        Edge.refuses(Edge::all, -2, x -> x.copy(0, 2, 0, 0, 1), x -> x.copy(2, 6, 0, 0, 0), x -> x.copy(6, 0, -1, 9, -1));
        Edge.part("-2");
        Edge.refuses(Edge::all, -2, x -> x.copy(3, 0, 0, 0, 1), x -> x.copy(0, 3, 0, 0, 1), x -> x.copy(3, 3, 0, 0, 0),
                x -> x.copy(3, 4, 0, 0, 1), x -> x.copy(4, 3, -1, -1, -1));
        Edge.part("when both hold something");
        Edge.refuses(Edge::all, -3, x -> x.copy(2, 4, 0, 0, 1), x -> x.copy(4, 6, 0, 0, 1));
        Edge.promise(4, "-3 either");
        Edge.refuses(Edge::all, -3, x -> x.copy(0, 4, 0, 0, 1), x -> x.copy(4, 0, 0, 0, 1), x -> x.copy(4, 7, 0, 0, 0),
                x -> x.copy(4, 4, 0, 0, 0), x -> x.copy(4, 0, -1, -1, -1));
        Edge.promise(4, "-4 n");
        Edge.refuses(Edge::all, -4, x -> x.copy(0, 1, 0, 0, -1), x -> x.copy(0, 1, 1, 1, LEAST),
                x -> x.copy(0, 1, -1, 9, -1), x -> x.copy(0, 0, 3, 3, -3));
    }

    private static void promise4Beyond() {
        Edge.promise(4, "-5 i or j below 0, or an end that isn't there");
        Edge.part("i or j below 0");
        Edge.refuses(Edge::all, -5, x -> x.copy(0, 1, -1, 0, 1), x -> x.copy(0, 1, 0, -1, 1), x -> x.copy(0, 1, -1, 0, 0),
                x -> x.copy(0, 1, 0, -1, 0), x -> x.copy(0, 1, LEAST, 0, 1), x -> x.copy(0, 1, 0, LEAST, MOST));
        Edge.part("an end that isn't there");
        Edge.refuses(Edge::all, -5, x -> x.copy(0, 0, 1, 0, 3), x -> x.copy(0, 1, 0, 0, 3), x -> x.copy(0, 1, 0, 1, 2),
                x -> x.copy(1, 0, 2, 0, 1), x -> x.copy(0, 1, 4, 0, 0), x -> x.copy(0, 1, 0, 3, 0),
                x -> x.copy(0, 1, 1, 1, MOST), x -> x.copy(0, 1, MOST, 0, 1), x -> x.copy(0, 1, 0, MOST, 1),
                x -> x.copy(5, 5, 1, 0, 160), x -> x.copy(5, 5, 0, 1, 160), x -> x.copy(5, 5, MOST, MOST, MOST));
        Edge.gives(Edge::all, 1, x -> x.copy(0, 0, 1, 0, 2));
        Edge.gives(Edge::all, 1, x -> x.copy(0, 1, 0, 0, 2));
        Edge.gives(Edge::all, 1, x -> x.copy(5, 5, 0, 0, 160));
        Edge.gives(() -> Edge.row(Edge.row(Edge.empty(), 0, 1), 1, 1), 1, x -> x.copy(0, 1, 0, 0, 0));
    }

    private static void promise5() {
        Edge.promise(5, "Element i of the ROW");
        Edge.asks(Edge::all, 7, x -> x.element(0, 0));
        Edge.asks(Edge::all, 9, x -> x.element(0, 2));
        Edge.asks(Edge::all, 0, x -> x.element(5, 159));
        Edge.promise(5, "0 if there is none (nothing is refused)");
        Edge.asks(Edge::all, 0, x -> x.element(0, -1));
        Edge.asks(Edge::all, 0, x -> x.element(0, 3));
        Edge.asks(Edge::all, 0, x -> x.element(5, 160));
        Edge.asks(Edge::all, 0, x -> x.element(0, LEAST));
        Edge.asks(Edge::all, 0, x -> x.element(0, MOST));
        Edge.asks(Edge::all, 0, x -> x.element(3, 0));
        Edge.asks(Edge::all, 0, x -> x.element(4, 0));
        Edge.asks(Edge::all, 0, x -> x.element(-1, 0));
        Edge.asks(Edge::all, 0, x -> x.element(8, 0));
        Edge.asks(Edge::all, 0, x -> x.element(MOST, LEAST));
    }

    private static void promise6() {
        Edge.promise(6, "SHELF s holds a PLACE, or NOTHING (place NONE): 1, 0");
        MillOfDistances x = Edge.all();
        Edge.due("the first PLACE", x.show(0, 0), 1);
        Edge.due("is there, no ROW", x.holds(0), 0);
        Edge.due("the last PLACE", x.show(7, 3), 1);
        Edge.due("is there", x.holds(7), 3);
        Edge.due("NOTHING for a PLACE", x.show(3, -1), 0);
        Edge.due("is there", x.holds(3), -1);
        Edge.due("NOTHING for a ROW", x.show(5, -1), 0);
        Edge.due("is there", x.holds(5), -1);
        Edge.due("NOTHING for NOTHING", x.show(4, -1), 0);
        Edge.gives(Edge::empty, 0, y -> y.show(0, -1));
        Edge.promise(6, "-1");
        Edge.refuses(Edge::all, -1, y -> y.show(0, 4), y -> y.show(0, -2), y -> y.show(3, 8), y -> y.show(4, MOST),
                y -> y.show(4, LEAST), y -> y.show(-1, 0), y -> y.show(8, 0), y -> y.show(8, -1), y -> y.show(-1, -1));
        Edge.refuses(Edge::empty, -1, y -> y.show(0, 0));
    }

    private static void promise7() {
        Edge.promise(7, "What SHELF s holds: NONE NOTHING, or no such SHELF");
        Edge.asks(Edge::all, -1, x -> x.holds(4));
        Edge.asks(Edge::all, -1, x -> x.holds(-1));
        Edge.asks(Edge::all, -1, x -> x.holds(8));
        Edge.asks(Edge::all, -1, x -> x.holds(LEAST));
        Edge.asks(Edge::all, -1, x -> x.holds(MOST));
        Edge.promise(7, "a PLACE's number");
        Edge.asks(Edge::all, 1, x -> x.holds(3));
        for (int p = 0; p < 8; p++) {
            int place = p;
            MillOfDistances x = Edge.places(8);
            x.show(0, place);
            Edge.due("of PLACE " + p, x.holds(0), p);
        }
        Edge.promise(7, "100 and the SORT of a ROW");
        for (int sort = 0; sort < 4; sort++) {
            int of = sort;
            Edge.asks(() -> Edge.row(Edge.empty(), 0, of), 100 + sort, x -> x.holds(0));
            Edge.asks(() -> Edge.row(Edge.empty(), 7, of, 1, 2), 100 + sort, x -> x.holds(7));
        }
    }

    /** Every KIND in the SHELF of its number; 0 has ROADS to 1, 2 and 7. */
    private static MillOfDistances shown() {
        MillOfDistances x = Edge.roads(Edge.kinds(), 0, 1, 5, 0, 2, 5, 7, 0, 5);
        for (int s = 0; s < 7; s++) {
            x.show(s, s);
        }
        return x;
    }

    private static void promise8() {
        Edge.promise(8, "What the PLACE in SHELF s, taken for one of a KIND, says: PLACE how many ROADS it has");
        int[] roads = {3, 1, 1, 0, 0, 0, 0};
        for (int s = 0; s < 7; s++) {
            int of = s;
            Edge.asks(EdgesOfShelves::shown, roads[s], x -> x.says(of, 0));
        }
        MillOfDistances all = Edge.places(8);
        for (int q = 1; q < 8; q++) {
            all.road(0, q, 1);
        }
        all.show(0, 0);
        Edge.due("seven ROADS", all.says(0, 0), 7);
        all.road(0, 7, 0);
        Edge.due("six, as one is gone", all.says(0, 0), 6);
        Edge.promise(8, "HILL, PEAK what it asks for 10 MILES");
        Edge.asks(EdgesOfShelves::shown, 20, x -> x.says(1, 1));
        Edge.asks(EdgesOfShelves::shown, 30, x -> x.says(3, 1));
        Edge.asks(EdgesOfShelves::shown, 30, x -> x.says(3, 3));
        Edge.promise(8, "MARSH, BOG what it asks for 1 MILE");
        Edge.asks(EdgesOfShelves::shown, 8, x -> x.says(2, 2));
        Edge.asks(EdgesOfShelves::shown, 9, x -> x.says(5, 2));
        Edge.asks(EdgesOfShelves::shown, 9, x -> x.says(5, 5));
        Edge.promise(8, "TOWN, CITY what it asks for 99 MILES");
        Edge.asks(EdgesOfShelves::shown, 90, x -> x.says(4, 4));
        Edge.asks(EdgesOfShelves::shown, 89, x -> x.says(6, 4));
        Edge.asks(EdgesOfShelves::shown, 89, x -> x.says(6, 6));
    }

    private static void promise8Refused() {
        Edge.promise(8, "-1 SHELF, KIND");
        Edge.part("SHELF");
        Edge.refuses(Edge::all, -1, x -> x.says(-1, 0), x -> x.says(8, 0), x -> x.says(LEAST, 0), x -> x.says(MOST, 7));
        Edge.part("KIND");
        Edge.refuses(Edge::all, -1, x -> x.says(3, -1), x -> x.says(3, 7), x -> x.says(0, 7), x -> x.says(4, -1),
                x -> x.says(3, LEAST), x -> x.says(3, MOST));
        Edge.promise(8, "-2 also a PLACE of another KIND");
        Edge.part("-2");
        Edge.refuses(Edge::all, -2, x -> x.says(0, 0), x -> x.says(5, 6));
        Edge.part("a PLACE of another KIND");
        int[][] others = {{1, 2, 3, 4, 5, 6}, {2, 3, 4, 5, 6}, {1, 3, 4, 5, 6}, {2, 4, 5, 6}, {1, 2, 3, 5, 6},
            {1, 3, 4, 6}, {1, 2, 3, 5}};
        for (int s = 0; s < 7; s++) {
            for (int kind : others[s]) {
                int of = s;
                Edge.refuses(EdgesOfShelves::shown, -2, x -> x.says(of, kind));
            }
        }
        Edge.promise(8, "-3");
        Edge.refuses(Edge::all, -3, x -> x.says(4, 0), x -> x.says(7, 6));
    }
}
