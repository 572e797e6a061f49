/** Promises 9 to 17, a sentence at a time. */
final class EdgesOfMap {
    private static final int LEAST = Integer.MIN_VALUE;
    private static final int MOST = Integer.MAX_VALUE;

    private EdgesOfMap() {
    }

    static void run() {
        promise9();
        promise10();
        promise11();
        promise12();
        promise13();
        promise14();
        promise14Refused();
        promise15();
        promise16();
        promise17();
    }

    private static void promise9() {
        Edge.promise(9, "A PLACE: the number");
        MillOfDistances x = Edge.empty();
        for (int p = 0; p < 8; p++) {
            int a = p == 0 ? 0 : p == 1 ? 9 : p;
            Edge.due("PLACE " + p, x.place(p % 7, a), p);
            Edge.due("its KIND", x.placeOf(p, 0), p % 7);
            Edge.due("its a", x.placeOf(p, 1), a);
            Edge.due("no ROADS of it", x.placeOf(p, 2), 0);
        }
        Edge.promise(9, "-1 KIND");
        Edge.refuses(Edge::all, -1, y -> y.place(-1, 0), y -> y.place(7, 0), y -> y.place(LEAST, 0),
                y -> y.place(MOST, 0), y -> y.place(7, 10));
        Edge.refuses(Edge::empty, -1, y -> y.place(7, 0));
        Edge.refuses(() -> Edge.places(8), -1, y -> y.place(-1, 10));
        Edge.promise(9, "-6");
        Edge.refuses(Edge::all, -6, y -> y.place(0, -1), y -> y.place(6, 10), y -> y.place(3, LEAST),
                y -> y.place(3, MOST));
        Edge.refuses(() -> Edge.places(8), -6, y -> y.place(0, 10));
        Edge.promise(9, "-7");
        Edge.refuses(() -> Edge.places(8), -7, y -> y.place(0, 0), y -> y.place(6, 9));
        Edge.gives(() -> Edge.places(7), 7, y -> y.place(6, 9));
    }

    private static void promise10() {
        Edge.promise(10, "Of a PLACE: 0 KIND, 1 a, 2 PLACES it has ROADS to (bits), 3 all MILES of these");
        Edge.asks(Edge::kinds, 6, x -> x.placeOf(6, 0));
        Edge.asks(Edge::kinds, 7, x -> x.placeOf(7, 1));
        Edge.asks(Edge::all, 2, x -> x.placeOf(0, 2));
        Edge.asks(Edge::all, 5, x -> x.placeOf(1, 2));
        Edge.asks(Edge::all, 10, x -> x.placeOf(0, 3));
        Edge.asks(Edge::all, 50, x -> x.placeOf(2, 3));
        Edge.asks(() -> Edge.places(1), 0, x -> x.placeOf(0, 2));
        Edge.asks(() -> Edge.places(1), 0, x -> x.placeOf(0, 3));
        MillOfDistances all = Edge.places(8);
        for (int p = 0; p < 7; p++) {
            all.road(7, p, 999);
        }
        Edge.due("ROADS to all others", all.placeOf(7, 2), 127);
        Edge.due("as long as can be", all.placeOf(7, 3), 6993);
        Edge.due("a ROAD to the last", all.placeOf(0, 2), 128);
        Edge.promise(10, "-5: no such one, another what");
        Edge.part("no such one");
        Edge.refuses(Edge::all, -5, x -> x.placeOf(4, 0), x -> x.placeOf(-1, 0), x -> x.placeOf(LEAST, 3),
                x -> x.placeOf(MOST, 3), x -> x.placeOf(8, 9));
        Edge.refuses(Edge::empty, -5, x -> x.placeOf(0, 0));
        Edge.part("another what");
        Edge.refuses(Edge::all, -5, x -> x.placeOf(0, -1), x -> x.placeOf(0, 4), x -> x.placeOf(0, LEAST),
                x -> x.placeOf(0, MOST));
    }

    private static void promise11() {
        Edge.promise(11, "The ROAD between two has n MILES (0: there is none): what it had (0 none)");
        MillOfDistances x = Edge.all();
        Edge.due("a new ROAD of 1", x.road(0, 3, 1), 0);
        Edge.due("999 now", x.road(3, 0, 999), 1);
        Edge.due("MILES", x.miles(0, 3), 999);
        Edge.due("999 again", x.road(0, 3, 999), 999);
        Edge.due("ROADS", x.status(1), 4);
        Edge.due("none now", x.road(0, 3, 0), 999);
        Edge.due("there is none", x.miles(3, 0), 0);
        Edge.due("ROADS but that", x.status(1), 3);
        Edge.due("none of none", x.road(0, 3, 0), 0);
        Edge.due("no FLOUR for it", x.status(3), 500);
        Edge.promise(11, "-1");
        Edge.refuses(Edge::all, -1, y -> y.road(0, 4, 5), y -> y.road(4, 0, 5), y -> y.road(-1, 0, 5),
                y -> y.road(0, -1, 5), y -> y.road(4, 4, 1000), y -> y.road(LEAST, MOST, -1));
        Edge.promise(11, "-6 the same, n not 0 to 999");
        Edge.part("the same");
        Edge.refuses(Edge::all, -6, y -> y.road(0, 0, 5), y -> y.road(3, 3, 0), y -> y.road(1, 1, 1000));
        Edge.part("n not 0 to 999");
        Edge.refuses(Edge::all, -6, y -> y.road(0, 1, -1), y -> y.road(0, 1, 1000), y -> y.road(0, 3, LEAST),
                y -> y.road(0, 3, MOST));
    }

    private static void promise12() {
        Edge.promise(12, "MILES of the ROAD between two");
        Edge.asks(Edge::all, 20, x -> x.miles(1, 2));
        Edge.asks(Edge::all, 20, x -> x.miles(2, 1));
        Edge.asks(() -> Edge.roads(Edge.places(8), 6, 7, 999), 999, x -> x.miles(7, 6));
        Edge.promise(12, "0: there is none");
        Edge.asks(Edge::all, 0, x -> x.miles(0, 3));
        Edge.asks(Edge::all, 0, x -> x.miles(2, 0));
        Edge.promise(12, "-11");
        Edge.refuses(Edge::all, -11, x -> x.miles(0, 4), x -> x.miles(4, 0), x -> x.miles(-1, 1), x -> x.miles(1, -1),
                x -> x.miles(4, 4), x -> x.miles(LEAST, MOST));
        Edge.refuses(Edge::empty, -11, x -> x.miles(0, 0));
        Edge.promise(12, "-16 the same (counted as -1, -6)");
        Edge.refuses(Edge::all, -16, x -> x.miles(0, 0), x -> x.miles(3, 3));
    }

    private static void promise13() {
        Edge.promise(13, "FLOUR (what 0), WIND (1) becomes v: what it was");
        MillOfDistances x = Edge.all();
        Edge.due("FLOUR 0", x.ask(0, 0), 500);
        Edge.due("is", x.status(3), 0);
        Edge.due("FLOUR 99999", x.ask(0, 99_999), 0);
        Edge.due("is", x.status(3), 99_999);
        Edge.due("WIND 0", x.ask(1, 0), 4);
        Edge.due("is", x.status(4), 0);
        Edge.due("WIND 9", x.ask(1, 9), 0);
        Edge.due("is", x.status(4), 9);
        Edge.due("FLOUR by itself", x.ask(0, 1), 99_999);
        Edge.promise(13, "-6");
        Edge.refuses(Edge::all, -6, y -> y.ask(0, -1), y -> y.ask(0, 100_000), y -> y.ask(1, -1), y -> y.ask(1, 10),
                y -> y.ask(2, 0), y -> y.ask(-1, 0), y -> y.ask(0, LEAST), y -> y.ask(0, MOST), y -> y.ask(1, MOST),
                y -> y.ask(LEAST, 1), y -> y.ask(MOST, 1));
    }

    private static void promise14() {
        Edge.promise(14, "A MAP by the ROW in SHELF s: how many ITEMS");
        Edge.reads(Edge::all, "wind 0", 1);
        Edge.reads(Edge::all, "wind 0;wind 1;wind 2", 3);
        StringBuilder full = new StringBuilder("wind 1");
        int items = 1;
        while (full.length() + 7 <= 160) {
            full.append(";wind ").append(items % 10);
            items++;
        }
        MillOfDistances x = Edge.reads(Edge::empty, full.toString(), items);
        Edge.due("the last of a full ROW", x.status(4), (items - 1) % 10);
        MillOfDistances y = Edge.text(Edge.empty(), "flour 00042");
        Edge.due("by SHELF 7", y.map(7), 1);
        Edge.due("once more", y.map(7), 1);
        Edge.due("the ROW stays", y.element(7, 10), '2');
        Edge.text(y, "place 0 0;place 0 0;place 0 0;place 0 0;place 0 0;place 0 0;place 0 0;place 0 0");
        Edge.due("eight PLACES", y.map(7), 8);
        Edge.due("all there", y.status(0), 8);
    }

    private static void promise14Refused() {
        Edge.promise(14, "-1");
        Edge.refuses(Edge::all, -1, x -> x.map(-1), x -> x.map(8), x -> x.map(LEAST), x -> x.map(MOST));
        Edge.promise(14, "-2");
        Edge.refuses(Edge::all, -2, x -> x.map(3));
        Edge.promise(14, "-3");
        Edge.refuses(Edge::all, -3, x -> x.map(4), x -> x.map(7));
        Edge.promise(14, "-6 a FAULT");
        Edge.refuses(Edge::all, -6, x -> x.map(2));
        Edge.fails(Edge::all, "wind 0;wund 1", 8);
        Edge.fails(Edge::all, "place 0 0;mill 0 1;flour 50;near 1 2 19;far 1 2 1;road 0 1 7;wind 10", 66);
        Edge.fails(Edge::empty, "", 0);
    }

    private static void promise15() {
        Edge.promise(15, "The FAULT of the latest map() that came to a ROW");
        MillOfDistances x = Edge.text(Edge.all(), "wind");
        Edge.due("of the one before", x.fault(), 0);
        Edge.due("map", x.map(7), -6);
        Edge.due("the latest", x.fault(), 4);
        Edge.due("no SHELF", x.map(8), -1);
        Edge.due("the latest still", x.fault(), 4);
        Edge.due("a PLACE", x.map(3), -2);
        Edge.due("the latest still", x.fault(), 4);
        Edge.due("NOTHING", x.map(4), -3);
        Edge.due("the latest still", x.fault(), 4);
        Edge.due("the same answer again", x.fault(), 4);
        x.restore();
        Edge.due("no part of THE IMAGE", x.fault(), 4);
        Edge.promise(15, "NONE: there was none, or none yet");
        Edge.part("none yet");
        Edge.asks(Edge::empty, -1, y -> y.fault());
        MillOfDistances y = Edge.empty();
        y.map(0);
        y.map(8);
        Edge.due("none that came to a ROW yet", y.fault(), -1);
        Edge.part("there was none");
        x.row(7, 0, 6);
        Edge.reads(() -> x, "wind 3", 1);
        Edge.due("none any more", x.fault(), -1);
    }

    private static void promise16() {
        Edge.promise(16, "COST of n MILES (1 to 998) between two");
        Edge.asks(Edge::all, 1, x -> x.cost(0, 1, 1));
        Edge.asks(Edge::all, 998, x -> x.cost(0, 1, 998));
        Edge.asks(Edge::all, 998, x -> x.cost(3, 0, 998));
        Edge.asks(Edge::kinds, 2994, x -> x.cost(3, 5, 998));
        Edge.asks(() -> {
            MillOfDistances x = Edge.empty();
            x.place(6, 0);
            x.place(6, 0);
            return x;
        }, 0, x -> x.cost(0, 1, 1));
        Edge.promise(16, "-1");
        Edge.refuses(Edge::all, -1, x -> x.cost(0, 4, 5), x -> x.cost(4, 0, 5), x -> x.cost(-1, 0, 5),
                x -> x.cost(0, -1, 5), x -> x.cost(4, 4, 0), x -> x.cost(MOST, LEAST, 999));
        Edge.promise(16, "-6 also the same");
        Edge.part("the same");
        Edge.refuses(Edge::all, -6, x -> x.cost(0, 0, 5), x -> x.cost(3, 3, 0));
        Edge.part("-6");
        Edge.refuses(Edge::all, -6, x -> x.cost(0, 1, 0), x -> x.cost(0, 1, 999), x -> x.cost(0, 1, -1),
                x -> x.cost(0, 3, LEAST), x -> x.cost(0, 3, MOST));
    }

    private static void promise17() {
        Edge.promise(17, "YIELD of the ROAD between two");
        Edge.asks(Edge::all, 20, x -> x.yields(1, 2));
        Edge.asks(Edge::all, 20, x -> x.yields(2, 1));
        Edge.asks(() -> Edge.roads(Edge.kinds(), 1, 2, 1), 0, x -> x.yields(1, 2));
        Edge.asks(() -> Edge.roads(Edge.kinds(), 0, 7, 999), 999, x -> x.yields(0, 7));
        Edge.promise(17, "-1");
        Edge.refuses(Edge::all, -1, x -> x.yields(0, 4), x -> x.yields(4, 0), x -> x.yields(-1, 0),
                x -> x.yields(0, -1), x -> x.yields(4, 4), x -> x.yields(LEAST, MOST));
        Edge.promise(17, "-6 the same, no ROAD");
        Edge.part("the same");
        Edge.refuses(Edge::all, -6, x -> x.yields(0, 0), x -> x.yields(3, 3));
        Edge.part("no ROAD");
        Edge.refuses(Edge::all, -6, x -> x.yields(0, 3), x -> x.yields(2, 0));
    }
}
