/** Promises 18 to 25, a sentence at a time. */
final class EdgesOfWays {
    private static final int LEAST = Integer.MIN_VALUE;
    private static final int MOST = Integer.MAX_VALUE;

    private EdgesOfWays() {
    }

    static void run() {
        promise18();
        promise19();
        promise20();
        promise21();
        promise22();
        promise23();
        promise24();
        promise24Refused();
        promise25();
    }

    /** 0-1 10, 1-2 20, 2-3 30; 4-5 999; 6 and 7 alone. */
    private static MillOfDistances apart() {
        return Edge.roads(Edge.places(8), 0, 1, 10, 1, 2, 20, 2, 3, 30, 4, 5, 999);
    }

    /** A row of eight, 999 MILES each. */
    private static MillOfDistances long7() {
        MillOfDistances x = Edge.places(8);
        for (int p = 0; p < 7; p++) {
            x.road(p, p + 1, 999);
        }
        return x;
    }

    private static void promise18() {
        Edge.promise(18, "AWAY");
        Edge.asks(Edge::all, 0, x -> x.away(2, 2));
        Edge.asks(Edge::all, 60, x -> x.away(0, 3));
        Edge.asks(Edge::all, 60, x -> x.away(3, 0));
        Edge.asks(() -> Edge.places(1), 0, x -> x.away(0, 0));
        Edge.asks(EdgesOfWays::long7, 6993, x -> x.away(7, 0));
        Edge.promise(18, "NONE");
        Edge.asks(EdgesOfWays::apart, -1, x -> x.away(0, 4));
        Edge.asks(EdgesOfWays::apart, -1, x -> x.away(6, 7));
        Edge.promise(18, "-11 (counted as -1)");
        Edge.refuses(Edge::all, -11, x -> x.away(0, 4), x -> x.away(4, 0), x -> x.away(-1, 0), x -> x.away(0, -1),
                x -> x.away(4, 4), x -> x.away(LEAST, MOST));
        Edge.refuses(Edge::empty, -11, x -> x.away(0, 0));
    }

    private static void promise19() {
        Edge.promise(19, "SHORTEST: how many PLACES (i NONE), the i-th (0 the first)");
        Edge.asks(Edge::all, 4, x -> x.shortest(0, 3, -1));
        for (int i = 0; i < 4; i++) {
            int of = i;
            Edge.asks(Edge::all, i, x -> x.shortest(0, 3, of));
            Edge.asks(Edge::all, 3 - i, x -> x.shortest(3, 0, of));
        }
        Edge.asks(Edge::all, 1, x -> x.shortest(2, 2, -1));
        Edge.asks(Edge::all, 2, x -> x.shortest(2, 2, 0));
        Edge.asks(EdgesOfWays::long7, 8, x -> x.shortest(0, 7, -1));
        Edge.asks(EdgesOfWays::long7, 7, x -> x.shortest(0, 7, 7));
        Edge.promise(19, "-1");
        Edge.refuses(Edge::all, -1, x -> x.shortest(0, 4, 0), x -> x.shortest(4, 0, 0), x -> x.shortest(-1, 0, -1),
                x -> x.shortest(0, -1, -1), x -> x.shortest(4, 4, 99), x -> x.shortest(LEAST, MOST, -2));
        Edge.promise(19, "-5 no WAY, no such i");
        Edge.part("no WAY");
        Edge.refuses(EdgesOfWays::apart, -5, x -> x.shortest(0, 4, -1), x -> x.shortest(0, 4, 0),
                x -> x.shortest(6, 7, 1));
        Edge.part("no such i");
        Edge.refuses(Edge::all, -5, x -> x.shortest(0, 3, 4), x -> x.shortest(0, 3, -2), x -> x.shortest(2, 2, 1),
                x -> x.shortest(0, 3, LEAST), x -> x.shortest(0, 3, MOST), x -> x.shortest(0, 1, 2));
        Edge.refuses(EdgesOfWays::long7, -5, x -> x.shortest(0, 7, 8));
    }

    private static void promise20() {
        Edge.promise(20, "WITHIN");
        Edge.asks(Edge::all, 4, x -> x.within(2, 0));
        Edge.asks(Edge::all, 4, x -> x.within(2, 19));
        Edge.asks(Edge::all, 6, x -> x.within(2, 20));
        Edge.asks(Edge::all, 15, x -> x.within(2, 30));
        Edge.asks(EdgesOfWays::apart, 15, x -> x.within(0, 9999));
        Edge.asks(EdgesOfWays::apart, 128, x -> x.within(7, 9999));
        Edge.asks(EdgesOfWays::long7, 255, x -> x.within(7, 6993));
        Edge.asks(EdgesOfWays::long7, 254, x -> x.within(7, 6992));
        Edge.promise(20, "-1");
        Edge.refuses(Edge::all, -1, x -> x.within(4, 5), x -> x.within(-1, 5), x -> x.within(LEAST, -1),
                x -> x.within(MOST, 10_000));
        Edge.refuses(Edge::empty, -1, x -> x.within(0, 0));
        Edge.promise(20, "-6 d");
        Edge.refuses(Edge::all, -6, x -> x.within(0, -1), x -> x.within(0, 10_000), x -> x.within(0, LEAST),
                x -> x.within(0, MOST));
    }

    private static void promise21() {
        Edge.promise(21, "PARTS (what 0), MIDDLE (1), WIDE (2), KEEP (3)");
        int[][] want = {{0, -5, 0, 0}, {1, 2, 60, 60}, {4, 0, 999, 60 + 999}, {1, 3, 6993, 6993}};
        Edge.Mill[] mills = {Edge::empty, Edge::all, EdgesOfWays::apart, EdgesOfWays::long7};
        for (int k = 0; k < mills.length; k++) {
            for (int what = 0; what < 4; what++) {
                int of = what;
                if (k != 0 || what != 1) {
                    Edge.asks(mills[k], want[k][what], x -> x.whole(of));
                }
            }
        }
        Edge.promise(21, "-5 another what");
        Edge.refuses(Edge::all, -5, x -> x.whole(-1), x -> x.whole(4), x -> x.whole(LEAST), x -> x.whole(MOST));
        Edge.refuses(Edge::empty, -5, x -> x.whole(4));
        Edge.promise(21, "MIDDLE of no PLACES");
        Edge.refuses(Edge::empty, -5, x -> x.whole(1));
        Edge.asks(() -> Edge.places(1), 0, x -> x.whole(1));
    }

    private static void promise22() {
        Edge.promise(22, "HARM (what 0), CUT (1) of milling the ROAD between two");
        Edge.asks(Edge::all, 30_000 - (30 + 50 + 60), x -> x.harm(2, 3, 0));
        Edge.asks(Edge::all, 30_000 - (30 + 50 + 60), x -> x.harm(3, 2, 0));
        Edge.asks(Edge::all, 8, x -> x.harm(2, 3, 1));
        Edge.asks(Edge::all, 7, x -> x.harm(3, 2, 1));
        Edge.asks(EdgesOfWays::apart, 9001, x -> x.harm(5, 4, 0));
        Edge.asks(EdgesOfWays::apart, 16, x -> x.harm(5, 4, 1));
        Edge.promise(22, "-1");
        Edge.refuses(Edge::all, -1, x -> x.harm(0, 4, 0), x -> x.harm(4, 0, 1), x -> x.harm(-1, 0, 0),
                x -> x.harm(0, -1, 1), x -> x.harm(4, 4, 2), x -> x.harm(LEAST, MOST, -1));
        Edge.promise(22, "-5 another what");
        Edge.refuses(Edge::all, -5, x -> x.harm(0, 1, 2), x -> x.harm(0, 1, -1), x -> x.harm(0, 0, 2),
                x -> x.harm(0, 3, -1), x -> x.harm(0, 1, LEAST), x -> x.harm(0, 1, MOST));
        Edge.promise(22, "-6 the same, no ROAD");
        Edge.part("the same");
        Edge.refuses(Edge::all, -6, x -> x.harm(0, 0, 0), x -> x.harm(3, 3, 1));
        Edge.part("no ROAD");
        Edge.refuses(Edge::all, -6, x -> x.harm(0, 3, 0), x -> x.harm(2, 0, 1));
    }

    private static void promise23() {
        Edge.promise(23, "LEAST HARM");
        Edge.asks(Edge::all, 203, x -> x.leastHarm());
        Edge.asks(() -> Edge.roads(Edge.places(8), 6, 7, 999), 607, x -> x.leastHarm());
        Edge.asks(() -> Edge.roads(Edge.places(2), 1, 0, 1), 1, x -> x.leastHarm());
        Edge.promise(23, "-5 no ROADS");
        Edge.refuses(Edge::empty, -5, x -> x.leastHarm());
        Edge.refuses(() -> Edge.places(1), -5, x -> x.leastHarm());
        Edge.refuses(() -> Edge.places(8), -5, x -> x.leastHarm());
        Edge.refuses(() -> Edge.roads(Edge.places(2), 0, 1, 5, 0, 1, 0), -5, x -> x.leastHarm());
    }

    private static void cheapest(Edge.Mill mill, int p, int q, int d, int... want) {
        for (int what = 0; what < 3; what++) {
            int of = what;
            Edge.asks(mill, want[what], x -> x.cheapest(p, q, d, of));
        }
    }

    private static void promise24() {
        Edge.promise(24, "CHEAPEST: its COST (what 0; 0: none is needed), ROAD as 100 times the lesser and the other (1),"
                + " MILES (2)");
        cheapest(Edge::all, 0, 3, 59, 1, 1, 1);
        cheapest(Edge::all, 3, 0, 51, 9, 1, 9);
        cheapest(Edge::all, 0, 3, 50, 10, 102, 10);
        cheapest(Edge::all, 0, 3, 31, 29, 203, 29);
        cheapest(EdgesOfWays::long7, 7, 0, 6992, 1, 1, 1);
        cheapest(EdgesOfWays::long7, 0, 7, 5995, 998, 1, 998);
        cheapest(() -> Edge.roads(Edge.places(8), 7, 6, 999), 7, 6, 1, 998, 607, 998);
        Edge.part("0: none is needed");
        Edge.asks(Edge::all, 0, x -> x.cheapest(0, 3, 60, 0));
        Edge.asks(Edge::all, 0, x -> x.cheapest(0, 3, 9999, 0));
        Edge.promise(24, "NONE: by none (and 1, 2, if none is needed)");
        Edge.part("by none");
        cheapest(Edge::all, 0, 3, 30, -1, -1, -1);
        cheapest(Edge::all, 0, 3, 1, -1, -1, -1);
        cheapest(EdgesOfWays::apart, 0, 4, 9999, -1, -1, -1);
        cheapest(EdgesOfWays::apart, 6, 7, 1, -1, -1, -1);
        cheapest(EdgesOfWays::long7, 0, 7, 5994, -1, -1, -1);
        Edge.part("and 1, 2, if none is needed");
        Edge.asks(Edge::all, -1, x -> x.cheapest(0, 3, 60, 1));
        Edge.asks(Edge::all, -1, x -> x.cheapest(0, 3, 60, 2));
        Edge.asks(EdgesOfWays::long7, -1, x -> x.cheapest(0, 7, 6993, 2));
    }

    private static void promise24Refused() {
        Edge.promise(24, "-11");
        Edge.refuses(Edge::all, -11, x -> x.cheapest(0, 4, 5, 0), x -> x.cheapest(4, 0, 5, 0), x -> x.cheapest(-1, 0, 5, 0),
                x -> x.cheapest(0, -1, 5, 0), x -> x.cheapest(4, 4, 0, 3), x -> x.cheapest(LEAST, MOST, -1, -1));
        Edge.promise(24, "-15 another what");
        Edge.refuses(Edge::all, -15, x -> x.cheapest(0, 1, 5, 3), x -> x.cheapest(0, 1, 5, -1), x -> x.cheapest(0, 0, 0, 3),
                x -> x.cheapest(0, 1, 10_000, LEAST), x -> x.cheapest(0, 1, 60, MOST));
        Edge.promise(24, "-16 the same, d (counted as -1, -5, -6)");
        Edge.part("the same");
        Edge.refuses(Edge::all, -16, x -> x.cheapest(0, 0, 5, 0), x -> x.cheapest(3, 3, 9999, 2));
        Edge.part("d");
        Edge.refuses(Edge::all, -16, x -> x.cheapest(0, 1, 0, 0), x -> x.cheapest(0, 1, 10_000, 0),
                x -> x.cheapest(0, 1, -1, 1), x -> x.cheapest(0, 1, LEAST, 2), x -> x.cheapest(0, 1, MOST, 0));
    }

    private static void promise25() {
        Edge.promise(25, "MEET");
        Edge.asks(Edge::all, 2, x -> x.meet(0, 3));
        Edge.asks(Edge::all, 2, x -> x.meet(3, 0));
        Edge.asks(Edge::all, 3, x -> x.meet(3, 3));
        Edge.asks(EdgesOfWays::apart, 4, x -> x.meet(5, 4));
        Edge.asks(EdgesOfWays::apart, 7, x -> x.meet(7, 7));
        Edge.asks(EdgesOfWays::long7, 3, x -> x.meet(0, 7));
        Edge.promise(25, "NONE");
        Edge.asks(EdgesOfWays::apart, -1, x -> x.meet(0, 4));
        Edge.asks(EdgesOfWays::apart, -1, x -> x.meet(7, 6));
        Edge.promise(25, "-11 (counted as -1)");
        Edge.refuses(Edge::all, -11, x -> x.meet(0, 4), x -> x.meet(4, 0), x -> x.meet(-1, 0), x -> x.meet(0, -1),
                x -> x.meet(4, 4), x -> x.meet(LEAST, MOST));
        Edge.refuses(Edge::empty, -11, x -> x.meet(0, 0));
    }
}
