/** The Terms of what comes of it, a sentence at a time. */
final class TermsOutcomes {
    private static final int LEAST = Integer.MIN_VALUE;
    private static final int MOST = Integer.MAX_VALUE;

    private TermsOutcomes() {
    }

    static void run() {
        within();
        partsAndMiddle();
        wide();
        harm();
        leastHarm();
        keep();
        cheapest();
        cheapestOfSeveral();
        meet();
        journey();
        journeyWalk();
        journeyEnds();
        table();
        mend();
        pinches();
        theft();
        gale();
        draw();
        shelves();
        acts();
        bodies();
        trace();
    }

    /** 0-1 10, 1-2 20, 3-4 5; 5 alone. */
    private static MillOfDistances apart() {
        return Edge.roads(Edge.places(6), 0, 1, 10, 1, 2, 20, 3, 4, 5);
    }

    private static Edge.Mill roads(int places, int... told) {
        return () -> Edge.roads(Edge.places(places), told);
    }

    private static void within() {
        Edge.term("WITHIN d (0 to 9999): PLACES (bits) AWAY by d at most");
        Edge.asks(TermsOutcomes::apart, 1, x -> x.within(0, 0));
        Edge.asks(TermsOutcomes::apart, 1, x -> x.within(0, 9));
        Edge.asks(TermsOutcomes::apart, 3, x -> x.within(0, 10));
        Edge.asks(TermsOutcomes::apart, 3, x -> x.within(0, 29));
        Edge.asks(TermsOutcomes::apart, 7, x -> x.within(0, 30));
        Edge.asks(TermsOutcomes::apart, 7, x -> x.within(0, 9999));
        Edge.asks(TermsOutcomes::apart, 32, x -> x.within(5, 9999));
        Edge.refuses(TermsOutcomes::apart, -6, x -> x.within(0, -1), x -> x.within(0, 10_000));
    }

    private static void partsAndMiddle() {
        Edge.term("PARTS: how many sets hang together");
        Edge.asks(Edge::empty, 0, x -> x.whole(0));
        Edge.asks(() -> Edge.places(1), 1, x -> x.whole(0));
        Edge.asks(() -> Edge.places(8), 8, x -> x.whole(0));
        Edge.asks(TermsOutcomes::apart, 3, x -> x.whole(0));
        Edge.asks(Edge::all, 1, x -> x.whole(0));
        Edge.asks(roads(4, 0, 3, 1, 1, 2, 1), 2, x -> x.whole(0));
        Edge.term("MIDDLE: the PLACE whose farthest PLACE is nearest (NONE AWAY counts 10,000), of several the first");
        Edge.asks(() -> Edge.places(1), 0, x -> x.whole(1));
        Edge.asks(roads(2, 0, 1, 9), 0, x -> x.whole(1));
        Edge.asks(roads(3, 0, 1, 9, 1, 2, 9), 1, x -> x.whole(1));
        Edge.asks(roads(3, 0, 2, 9, 1, 2, 10), 2, x -> x.whole(1));
        Edge.asks(TermsOutcomes::apart, 0, x -> x.whole(1));
        Edge.asks(() -> Edge.places(8), 0, x -> x.whole(1));
        Edge.asks(roads(4, 1, 2, 1, 2, 3, 1), 0, x -> x.whole(1));
        Edge.asks(roads(5, 0, 1, 999, 1, 2, 999, 2, 3, 999, 3, 4, 999), 2, x -> x.whole(1));
        Edge.asks(roads(4, 0, 1, 5, 1, 2, 5, 2, 3, 5, 3, 0, 5), 0, x -> x.whole(1));
    }

    private static void wide() {
        Edge.term("WIDE: the greatest AWAY (NONE left out; 0 without any)");
        Edge.asks(Edge::empty, 0, x -> x.whole(2));
        Edge.asks(() -> Edge.places(1), 0, x -> x.whole(2));
        Edge.asks(() -> Edge.places(8), 0, x -> x.whole(2));
        Edge.asks(TermsOutcomes::apart, 30, x -> x.whole(2));
        Edge.asks(roads(8, 6, 7, 999), 999, x -> x.whole(2));
        Edge.asks(roads(3, 0, 1, 100, 0, 2, 10, 1, 2, 10), 20, x -> x.whole(2));
    }

    private static void harm() {
        Edge.term("HARM of milling a ROAD: by how much all AWAYS together become more (each pair once, 10,000 for NONE)");
        Edge.asks(roads(2, 0, 1, 5), 9995, x -> x.harm(0, 1, 0));
        Edge.asks(roads(3, 0, 1, 5, 1, 2, 6), 20_000 - 5 - 11, x -> x.harm(0, 1, 0));
        Edge.asks(roads(3, 0, 1, 5, 1, 2, 5, 0, 2, 10), 0, x -> x.harm(0, 2, 0));
        Edge.asks(roads(3, 0, 1, 5, 1, 2, 5, 0, 2, 9), 1, x -> x.harm(0, 2, 0));
        Edge.asks(roads(3, 0, 1, 5, 1, 2, 5, 0, 2, 9), 9, x -> x.harm(0, 1, 0));
        Edge.asks(roads(8, 0, 1, 1, 1, 2, 1, 2, 3, 1, 3, 4, 1, 4, 5, 1, 5, 6, 1, 6, 7, 1), 16 * 10_000 - 64,
                x -> x.harm(3, 4, 0));
        Edge.term("CUT: PLACES (bits) that one can't come to any more from the first of its ends");
        Edge.asks(roads(2, 0, 1, 5), 2, x -> x.harm(0, 1, 1));
        Edge.asks(TermsOutcomes::apart, 6, x -> x.harm(0, 1, 1));
        Edge.asks(TermsOutcomes::apart, 4, x -> x.harm(1, 2, 1));
        Edge.asks(roads(3, 0, 1, 5, 1, 2, 5, 0, 2, 9), 0, x -> x.harm(0, 1, 1));
        Edge.term("CUT is from the first one told");
        Edge.asks(TermsOutcomes::apart, 1, x -> x.harm(1, 0, 1));
        Edge.asks(TermsOutcomes::apart, 3, x -> x.harm(2, 1, 1));
        Edge.asks(TermsOutcomes::apart, 8, x -> x.harm(4, 3, 1));
    }

    private static void leastHarm() {
        Edge.term("LEAST HARM: the ROAD (100 times the lesser and the other) with the least HARM, of several the first");
        Edge.asks(roads(8, 7, 6, 5), 607, x -> x.leastHarm());
        Edge.asks(roads(4, 0, 1, 5, 2, 3, 5), 1, x -> x.leastHarm());
        Edge.asks(roads(4, 0, 1, 4, 2, 3, 5), 203, x -> x.leastHarm());
        Edge.asks(roads(4, 0, 1, 5, 2, 3, 4), 1, x -> x.leastHarm());
        Edge.asks(roads(3, 0, 1, 9, 0, 2, 9, 1, 2, 9), 1, x -> x.leastHarm());
        Edge.asks(roads(3, 0, 1, 9, 0, 2, 20, 1, 2, 9), 2, x -> x.leastHarm());
        Edge.asks(roads(4, 0, 1, 1, 0, 2, 1, 0, 3, 1, 1, 2, 9, 2, 3, 9), 102, x -> x.leastHarm());
        Edge.refuses(() -> Edge.places(4), -5, x -> x.leastHarm());
    }

    private static void keep() {
        Edge.term("KEEP: the least MILES of ROADS by which as many sets hang together as now");
        Edge.asks(Edge::empty, 0, x -> x.whole(3));
        Edge.asks(() -> Edge.places(8), 0, x -> x.whole(3));
        Edge.asks(TermsOutcomes::apart, 35, x -> x.whole(3));
        Edge.asks(roads(3, 0, 1, 7, 1, 2, 8, 0, 2, 9), 15, x -> x.whole(3));
        Edge.asks(roads(3, 0, 2, 5, 1, 2, 7), 12, x -> x.whole(3));
        Edge.asks(roads(4, 0, 3, 5, 3, 2, 6, 2, 1, 999), 1010, x -> x.whole(3));
        Edge.asks(roads(4, 0, 1, 9, 1, 2, 8, 2, 3, 7, 3, 0, 6, 0, 2, 5), 5 + 6 + 8, x -> x.whole(3));
        Edge.asks(roads(6, 0, 5, 999, 5, 4, 999, 1, 2, 1), 1999, x -> x.whole(3));
    }

    private static void cheapest(Edge.Mill mill, int p, int q, int d, int... want) {
        for (int what = 0; what < 3; what++) {
            int of = what;
            Edge.asks(mill, want[what], x -> x.cheapest(p, q, d, of));
        }
    }

    private static Edge.Mill kinds(int... told) {
        return () -> Edge.roads(Edge.kinds(), told);
    }

    private static void cheapest() {
        Edge.term("CHEAPEST for two and d (1 to 9999): of all single NEAR pinches (whatever FLOUR there is) behind which they"
                + " are AWAY by d at most the one of the least COST");
        cheapest(roads(2, 0, 1, 10), 0, 1, 9, 1, 1, 1);
        cheapest(roads(2, 0, 1, 10), 1, 0, 1, 9, 1, 9);
        cheapest(roads(2, 0, 1, 999), 0, 1, 1, 998, 1, 998);
        cheapest(roads(2, 0, 1, 1), 0, 1, 1, 0, -1, -1);
        cheapest(roads(2, 0, 1, 999), 0, 1, 9999, 0, -1, -1);
        cheapest(roads(3, 0, 1, 10, 1, 2, 10), 0, 2, 11, 9, 1, 9);
        cheapest(roads(3, 0, 1, 10, 1, 2, 10), 0, 2, 10, -1, -1, -1);
        cheapest(roads(3, 0, 1, 10, 1, 2, 12), 0, 2, 11, 11, 102, 11);
        cheapest(roads(3, 0, 1, 10, 1, 2, 10, 0, 2, 30), 0, 2, 5, 25, 2, 25);
        cheapest(kinds(1, 0, 50, 0, 7, 50), 1, 7, 80, 20, 7, 20);
        cheapest(kinds(3, 0, 50, 0, 4, 50), 3, 4, 80, 20, 4, 20);
        cheapest(kinds(3, 4, 50, 4, 6, 50), 3, 6, 80, 18, 406, 20);
        Edge.refuses(roads(2, 0, 1, 10), -16, x -> x.cheapest(0, 1, 0, 0), x -> x.cheapest(0, 1, 10_000, 0));
    }

    private static void cheapestOfSeveral() {
        Edge.term("of several that on the first ROAD (by the lesser, then the other), of the fewest MILES");
        cheapest(roads(4, 2, 3, 10, 3, 1, 10, 1, 0, 10), 2, 0, 20, -1, -1, -1);
        cheapest(roads(4, 2, 3, 10, 3, 1, 10, 1, 0, 10), 2, 0, 21, 9, 1, 9);
        cheapest(roads(4, 2, 3, 10, 3, 1, 10, 3, 0, 5), 2, 1, 15, 5, 103, 5);
        cheapest(kinds(6, 4, 9, 4, 0, 9), 6, 0, 17, 1, 4, 1);
        cheapest(() -> towns(100), 0, 1, 91, 9, 1, 9);
        cheapest(() -> towns(100), 0, 1, 90, 9, 1, 10);
        cheapest(() -> towns(100), 0, 1, 89, 10, 1, 11);
        Edge.term("none is needed, if they are so near now");
        Edge.asks(Edge::all, 0, x -> x.cheapest(0, 1, 10, 0));
        Edge.asks(Edge::all, 0, x -> x.cheapest(3, 0, 60, 0));
        Edge.asks(Edge::all, 1, x -> x.cheapest(3, 0, 59, 0));
    }

    private static MillOfDistances towns(int miles) {
        MillOfDistances x = Edge.empty();
        x.place(4, 0);
        x.place(4, 0);
        return Edge.roads(x, 0, 1, miles);
    }

    private static void meet() {
        Edge.term("MEET of two: the PLACE where the later of both is there soonest, each by SHORTEST, of several the first");
        Edge.asks(roads(3, 0, 2, 9, 1, 2, 9), 2, x -> x.meet(0, 1));
        Edge.asks(roads(3, 0, 2, 9, 1, 2, 9, 0, 1, 9), 0, x -> x.meet(1, 0));
        Edge.asks(roads(3, 0, 2, 9, 1, 2, 9, 0, 1, 8), 0, x -> x.meet(0, 1));
        Edge.asks(roads(4, 0, 2, 9, 1, 2, 9, 0, 3, 9, 1, 3, 8), 2, x -> x.meet(0, 1));
        Edge.asks(roads(4, 0, 2, 9, 1, 2, 10, 0, 3, 9, 1, 3, 9), 3, x -> x.meet(0, 1));
        Edge.asks(roads(2, 0, 1, 9), 0, x -> x.meet(1, 0));
        Edge.asks(() -> Edge.places(3), 2, x -> x.meet(2, 2));
        Edge.asks(TermsOutcomes::apart, -1, x -> x.meet(0, 3));
        Edge.asks(roads(8, 0, 1, 999, 1, 2, 999, 2, 3, 999, 3, 4, 999, 4, 5, 999, 5, 6, 999, 6, 7, 999), 3, x -> x.meet(7, 0));
    }

    private static void walks(Edge.Mill mill, int from, int to, int length, long... told) {
        Edge.asks(() -> Edge.row(mill.made(), 2, 2, told), length, x -> x.journey(from, to, 2, told.length / 4));
    }

    private static void journey() {
        Edge.term("JOURNEY: from one to another by told pinches: a ROW of 4 numbers each: P, Q, n (below 0: NEAR, else FAR;"
                + " not 0), behind how many MILES of his walk");
        Edge.Mill row = roads(3, 0, 1, 10, 1, 2, 10);
        walks(row, 0, 2, 20);
        walks(row, 0, 2, 19, 0, 1, -1, 0);
        walks(row, 0, 2, 21, 0, 1, 1, 0);
        walks(row, 0, 2, 19, 2, 1, -1, 9);
        walks(row, 0, 2, 19, 2, 1, -1, 10);
        walks(row, 0, 2, 20, 2, 1, -1, 11);
        Edge.refuses(() -> Edge.row(row.made(), 2, 2, 2, 1, 0, 11), -16, x -> x.journey(0, 2, 2, 1));
        Edge.refuses(() -> Edge.row(row.made(), 2, 2, 2, 1, 1, -1), -16, x -> x.journey(0, 2, 2, 1));
        walks(row, 0, 2, 20, 1, 2, 5, MOST);
        Edge.term("all free of COST");
        walks(row, 0, 2, 509, 0, 1, 489, 0);
        walks(() -> Edge.roads(Edge.kinds(), 3, 5, 900), 3, 5, 10, 3, 5, -890, 0);
    }

    private static void journeyWalk() {
        Edge.term("He walks SHORTEST as all is when he is at a PLACE");
        Edge.Mill two = roads(4, 0, 1, 10, 1, 3, 10, 0, 2, 10, 2, 3, 10);
        walks(two, 0, 3, 20, 1, 3, 5, 0);
        walks(two, 0, 3, 25, 1, 3, 5, 1);
        walks(two, 0, 3, 20, 2, 3, 5, 1);
        walks(two, 0, 3, 10 + 11, 1, 3, 900, 10, 0, 1, -9, 10, 2, 3, -1, 10, 0, 2, -9, 10);
        Edge.term("a pinch on the ROAD he walks counts only behind it");
        walks(two, 0, 3, 20, 0, 1, 5, 1);
        walks(two, 0, 3, 20, 0, 1, 5, 9);
        walks(two, 0, 3, 20, 0, 1, -5, 9);
        walks(two, 0, 3, 25, 0, 1, 5, 0, 2, 3, 5, 0);
        walks(two, 0, 3, 20, 1, 3, -5, 11);
        Edge.Mill back = roads(3, 0, 1, 10, 1, 2, 50, 0, 2, 70);
        walks(back, 0, 2, 60, 0, 2, -60, 11);
        walks(back, 0, 2, 10 + 10 + 10, 0, 2, -60, 5);
        walks(back, 0, 2, 10 + 1 + 10, 0, 1, -9, 5, 0, 2, -60, 5);
        walks(back, 0, 2, 10 + 39 + 10, 0, 1, 29, 5, 0, 2, -60, 5);
        walks(back, 0, 2, 10 + 50, 0, 1, 30, 5, 0, 2, -60, 5);
    }

    private static void journeyEnds() {
        Edge.term("LENGTH of his walk");
        walks(roads(2, 0, 1, 999), 1, 0, 999);
        walks(roads(2, 0, 1, 999), 1, 1, 0, 0, 1, 5, 0);
        Edge.term("-1: he can't");
        walks(() -> Edge.places(2), 0, 1, -1);
        walks(roads(3, 0, 1, 5), 0, 2, -1, 0, 1, -4, 0);
        Edge.term("-2: not within 9999");
        Edge.asks(() -> turned(20), 9999, x -> x.journey(0, 7, 2, 10));
        Edge.asks(() -> turned(21), -2, x -> x.journey(0, 7, 2, 10));
        Edge.term("In a JOURNEY a pinch leaves 1 and 999 MILES at the bounds");
        walks(roads(2, 0, 1, 10), 0, 1, 1, 0, 1, -9, 0);
        walks(roads(2, 0, 1, 10), 0, 1, 1, 0, 1, -10, 0);
        walks(roads(2, 0, 1, 10), 0, 1, 1, 0, 1, LEAST, 0);
        walks(roads(2, 0, 1, 10), 0, 1, 999, 0, 1, 990, 0);
        walks(roads(2, 0, 1, 10), 0, 1, 999, 0, 1, MOST, 0);
        walks(roads(2, 0, 1, 10), 0, 1, 3, 0, 1, -500, 0, 0, 1, 2, 0);
        walks(roads(2, 0, 1, 10), 0, 1, 997, 0, 1, 5000, 0, 0, 1, -2, 0);
    }

    /** From 5 on he is turned back five times between 5 and 6, as 7 is near now the one, now the other. */
    private static MillOfDistances turned(int first) {
        MillOfDistances x = Edge.roads(Edge.places(8), 0, 1, first, 1, 2, 999, 2, 3, 999, 3, 4, 999, 4, 5, 999, 5, 6, 997,
                6, 7, 1, 5, 7, 999);
        long[] told = new long[40];
        for (int k = 0; k < 5; k++) {
            int near = k % 2 == 0 ? 6 : 5;
            int behind = first + 4 * 999 + 997 * k + 5;
            long[] both = {near, 7, 998, behind, 11 - near, 7, -998, behind};
            System.arraycopy(both, 0, told, 8 * k, 8);
        }
        return Edge.row(x, 2, 2, told);
    }

    private static void judged(int places, int wrong, long... told) {
        Edge.asks(() -> Edge.row(Edge.places(places), 2, 2, told), wrong, x -> x.judge(2));
    }

    private static void table() {
        Edge.term("A told TABLE: a ROW of MILES for each two (0 and 1, 0 and 2, .., 1 and 2, ..): WRONG: the first (by pairs)"
                + " that is more than by a third PLACE (the two others together), or below 1");
        judged(3, -1, 5, 5, 5);
        judged(3, -1, 5, 10, 5);
        judged(3, 1, 5, 11, 5);
        judged(3, -1, 10, 5, 5);
        judged(3, 0, 11, 5, 5);
        judged(3, 2, 5, 5, 11);
        judged(3, 0, 0, 5, 5);
        judged(3, 0, -5, 0, 5);
        judged(3, 0, 5, 0, 4);
        judged(3, 1, 4, 0, 4);
        judged(2, -1, 1);
        judged(2, 0, 0);
        judged(2, 0, LEAST);
        judged(2, -1, MOST);
        judged(3, -1, MOST, MOST, MOST);
        judged(3, 0, MOST, 1, 1);
        judged(4, 3, 1, 1, 1, 3, 2, 2);
        judged(4, -1, 1, 1, 3, 2, 2, 2);
        judged(4, 2, 1, 1, 4, 2, 2, 2);
        judged(4, 2, 5, 5, -1, 5, 9, 9);
        judged(1, -1);
        judged(0, -1);
        judged(3, -1, 5, 5, 5, 0, -1, 99);
    }

    private static void mended(int places, int less, long... told) {
        Edge.asks(() -> Edge.row(Edge.places(places), 2, 2, told), less, x -> x.mend(2));
    }

    private static void mend() {
        Edge.term("MEND: by how much all of it must be less at least, so that it holds (all below 1 aside: those it refuses)");
        mended(3, 0, 5, 10, 5);
        mended(3, 1, 5, 11, 5);
        mended(3, 9997, 1, 9999, 1);
        mended(2, 0, 9999);
        mended(1, 0);
        mended(0, 0);
        mended(4, 8 + 7 + 6, 1, 10, 10, 1, 8, 1);
        mended(4, 8 + 7 + 6, 1, 10, 10, 1, 8, 1, 7, 7);
        Edge.refuses(() -> Edge.row(Edge.places(3), 2, 2, 5, 0, 5), -6, x -> x.mend(2));
    }

    private static void pinches() {
        Edge.term("Told PINCHES: a ROW of 3 numbers each: P, Q, n (below 0: NEAR, else FAR): WRONG: the first pinch that MAY"
                + " not be");
        Edge.Mill mill = () -> Edge.row(Edge.all(), 2, 2, 0, 1, -9, 1, 0, 490, 0, 1, 2);
        Edge.asks(mill, -1, x -> x.pinches(2, 1));
        Edge.asks(mill, -1, x -> x.pinches(2, 2));
        Edge.asks(mill, 2, x -> x.pinches(2, 3));
        long[][] wrong = {{0, 1, 0}, {0, 1, -10}, {0, 1, 990}, {0, 1, 501}, {0, 3, 1}, {0, 0, 1}, {0, 4, 1}, {-1, 0, 1},
            {0, 1, LEAST}, {0, 1, MOST}, {0, 1, -999}};
        for (long[] told : wrong) {
            Edge.asks(() -> Edge.row(Edge.all(), 2, 2, told), 0, x -> x.pinches(2, 1));
        }
        Edge.term("FLOUR left");
        Edge.asks(mill, 491, x -> x.left(2, 1));
        Edge.asks(mill, 1, x -> x.left(2, 2));
        Edge.refuses(mill, -6, x -> x.left(2, 3));
    }

    private static Edge.Mill table(Edge.Mill mill, long... told) {
        return () -> Edge.row(mill.made(), 2, 2, told);
    }

    private static void theft() {
        Edge.term("THEFT: told AWAYS now, a ROW for each two as above: how many ROADS there are by which one pinch of n MILES"
                + " (1 to 99), NEAR, would make all AWAYS so");
        Edge.Mill two = roads(2, 0, 1, 100);
        Edge.asks(table(two, 99), 1, x -> x.theft(2, 0));
        Edge.asks(table(two, 1), 1, x -> x.theft(2, 0));
        Edge.asks(table(two, 0), 0, x -> x.theft(2, 0));
        Edge.asks(table(two, 100), 0, x -> x.theft(2, 0));
        Edge.asks(table(two, 101), 0, x -> x.theft(2, 0));
        Edge.asks(table(roads(2, 0, 1, 101), 2), 1, x -> x.theft(2, 0));
        Edge.asks(table(roads(2, 0, 1, 101), 1), 0, x -> x.theft(2, 0));
        Edge.asks(table(roads(3, 0, 1, 10), 5, -1, -1), 1, x -> x.theft(2, 0));
        Edge.asks(table(roads(3, 0, 1, 10), 5, 10_000, -1), 0, x -> x.theft(2, 0));
        Edge.asks(table(() -> Edge.places(2), -1), 0, x -> x.theft(2, 0));
        Edge.asks(table(Edge::empty), 0, x -> x.theft(2, 0));
        Edge.term("the first such (10,000 times the lesser, 100 times the other, and n)");
        Edge.asks(table(two, 99), 101, x -> x.theft(2, 1));
        Edge.asks(table(two, 98), 102, x -> x.theft(2, 1));
        Edge.asks(table(two, 1), 199, x -> x.theft(2, 1));
        Edge.asks(table(roads(3, 1, 2, 10), -1, -1, 4), 10_206, x -> x.theft(2, 1));
        Edge.term("Each ROAD counts once for a THEFT.");
        Edge.Mill idle = roads(3, 0, 1, 10, 1, 2, 10, 0, 2, 40);
        Edge.asks(table(idle, 10, 20, 10), 1, x -> x.theft(2, 0));
        Edge.asks(table(idle, 10, 20, 10), 201, x -> x.theft(2, 1));
        Edge.asks(table(idle, 10, 19, 10), 221, x -> x.theft(2, 1));
        Edge.Mill idles = roads(4, 0, 1, 10, 1, 2, 10, 0, 2, 400, 2, 3, 10, 0, 3, 400);
        Edge.asks(table(idles, 10, 20, 30, 10, 20, 10), 2, x -> x.theft(2, 0));
        Edge.asks(table(idles, 10, 20, 30, 10, 20, 10), 201, x -> x.theft(2, 1));
        Edge.term("IN TRUTH: milling, spreading");
        Edge.gives(Edge::all, 510 + 10, x -> x.mill(0, 1) + 10 * x.status(1) - 10);
        Edge.gives(Edge::all, 9 + 499, x -> x.spread(0, 1, -1) + x.status(3));
    }

    private static int drawn(int[] seed, int below) {
        seed[0] = seed[0] * 1103515245 + 12345;
        return (seed[0] >>> 16) % below;
    }

    private static MillOfDistances windy(int miles, int wind, int flour, int seed) {
        MillOfDistances x = Edge.roads(Edge.places(2), 0, 1, miles);
        x.ask(0, flour);
        x.ask(1, wind);
        x.seed(seed);
        return x;
    }

    private static void gale() {
        Edge.term("A GALE by draws, n times: two PLACES, a DRAW below how many there are each");
        for (int places = 1; places <= 8; places++) {
            int of = places;
            int[] seed = {1};
            drawn(seed, of);
            drawn(seed, of);
            Edge.gives(() -> Edge.places(of), seed[0], x -> x.gale(1) + x.status(5));
        }
        Edge.term("is there a ROAD, it has a DRAW below WIND and 1 MILES more (999 at most) and as many pinches of FLOUR are"
                + " gone (0 at least)");
        Edge.term("A GALE draws MILES from 0 to WIND, only for a ROAD, and as many pinches of FLOUR are gone as the DRAW says,"
                + " also if 999 MILES are there.");
        for (int first = -20; first < 20; first++) {
            for (int wind = 0; wind <= 9; wind += 3) {
                int[] seed = {first};
                boolean isRoad = drawn(seed, 2) != drawn(seed, 2);
                int more = isRoad ? drawn(seed, wind + 1) : 0;
                gusted(windy(500, wind, 100, first), more, 500 + more, 100 - more, seed[0]);
                gusted(windy(999, wind, 100, first), 0, 999, 100 - more, seed[0]);
                gusted(windy(995, wind, 3, first), Math.min(4, more), Math.min(999, 995 + more), Math.max(0, 3 - more),
                        seed[0]);
            }
        }
    }

    private static void gusted(MillOfDistances x, int more, int miles, int flour, int seed) {
        Edge.due("gale(1)", x.gale(1), more);
        Edge.due("MILES", x.miles(0, 1), miles);
        Edge.due("FLOUR", x.status(3), flour);
        Edge.due("SEED", x.status(5), seed);
    }

    private static void draw() {
        Edge.term("A DRAW below n: SEED (1 at first) becomes SEED times 1103515245, and 12345 (an int, wrapping)");
        Edge.asks(Edge::empty, 1, x -> x.status(5));
        int[] seeds = {0, 1, -1, MOST, LEAST};
        for (int seed : seeds) {
            long once = (int) (seed * 1103515245L + 12345);
            long twice = (int) (once * 1103515245L + 12345);
            MillOfDistances x = Edge.places(1);
            x.seed(seed);
            x.gale(1);
            Edge.due("two draws on from " + seed, x.status(5), twice);
        }
        Edge.term("its upper 16 bits, no sign, modulo n");
        int unsigned = 0;
        for (int first = 0; first < 60; first++) {
            int[] seed = {first};
            int p = drawn(seed, 3);
            boolean isBelow0 = seed[0] < 0;
            int q = drawn(seed, 3);
            isBelow0 |= seed[0] < 0;
            MillOfDistances x = Edge.roads(Edge.places(3), 0, 1, 100, 0, 2, 200, 1, 2, 300);
            x.ask(1, 9);
            x.seed(first);
            x.gale(1);
            int more = p == q ? 0 : drawn(seed, 10);
            Edge.due("SEED from " + first, x.status(5), seed[0]);
            Edge.due("the ROAD drawn from " + first, p == q ? 600 : x.miles(p, q),
                    p == q ? 600 : 100 * (p + q) + more);
            unsigned += isBelow0 ? 1 : 0;
        }
        Edge.due("some have a sign", unsigned > 10 ? 1 : 0, 1);
    }

    private static void shelves() {
        Edge.term("SHELVES 0 to 7 hold NOTHING (at first), a ROW, or a PLACE");
        for (int s = 0; s < 8; s++) {
            int of = s;
            Edge.asks(Edge::empty, -1, x -> x.holds(of));
            Edge.refuses(Edge::empty, -3, x -> x.set(of, 0, 1), x -> x.says(of, 0));
            Edge.gives(Edge::empty, 102, x -> x.row(of, 2, 1) + x.holds(of) - 1);
            Edge.gives(() -> Edge.places(2), 1, x -> x.show(of, 1) - 1 + x.holds(of));
        }
        Edge.refuses(Edge::empty, -1, x -> x.row(8, 0, 0), x -> x.row(-1, 0, 0));
        Edge.term("A ROW has a SORT (0 bytes, 1 shorts, 2 ints, 3 longs) and 0 to 160 elements, 0 at first");
        Edge.gives(Edge::empty, 1, x -> x.row(0, 0, 0));
        Edge.gives(Edge::empty, 1, x -> x.row(0, 3, 160));
        Edge.refuses(Edge::empty, -7, x -> x.row(0, 0, 161));
        Edge.asks(() -> Edge.row(Edge.empty(), 0, 2, 9, 0), 0, x -> x.element(0, 1));
        Edge.term("what is put in keeps its lowest bits");
        long[][] puts = {{127, 127, 127, 127}, {128, -128, 128, 128}, {-129, 127, -129, -129}, {256, 0, 256, 256},
            {32_768, 0, -32_768, 32_768}, {65_536, 0, 0, 65_536}, {0x8000_0000L, 0, 0, LEAST}, {1L << 32, 0, 0, 0},
            {-1, -1, -1, -1}, {Long.MAX_VALUE, -1, -1, -1}, {Long.MIN_VALUE, 0, 0, 0}};
        for (long[] put : puts) {
            for (int sort = 0; sort < 3; sort++) {
                int of = sort;
                Edge.asks(() -> Edge.row(Edge.empty(), 0, of, put[0]), put[1 + sort], x -> x.element(0, 0));
            }
            Edge.asks(() -> Edge.row(Edge.empty(), 0, 3, put[0]), put[0], x -> x.element(0, 0));
        }
        Edge.term("(As ints: of longs the lowest 32 bits.)");
        longs();
        Edge.term("Elements of a ROW of longs count by their lowest 32 bits wherever a ROW tells something.");
        longs();
    }

    private static long high(long low) {
        return (low & 0xFFFF_FFFFL) + (5L << 32);
    }

    private static void longs() {
        MillOfDistances x = Edge.all();
        Edge.row(x, 2, 3, high(0), high(1), high(-9));
        Edge.due("PINCHES", x.pinches(2, 1), -1);
        Edge.due("FLOUR left", x.left(2, 1), 491);
        Edge.row(x, 2, 3, high(0), high(1), high(-9), high(0));
        Edge.due("JOURNEY", x.journey(0, 1, 2, 1), 1);
        Edge.row(x, 2, 3, high(9), high(29), high(59), high(20), high(50), high(30));
        Edge.due("THEFT", x.theft(2, 1), 101);
        Edge.due("TABLE", x.judge(2), -1);
        Edge.due("MEND", x.mend(2), 0);
        x.set(2, 0, 1L << 32);
        Edge.due("TABLE of a 0", x.judge(2), 0);
        Edge.due("MEND of a 0", x.mend(2), -6);
        Edge.row(x, 2, 3, high('w'), high('i'), high('n'), high('d'), high(' '), high('7'));
        Edge.due("MAP", x.map(2), 1);
        Edge.due("WIND", x.status(4), 7);
        Edge.due("the elements stay", x.element(2, 5), high('7'));
        Edge.row(x, 2, 3, high(0), high(1), high(-9));
        Edge.due("PINCHES in truth", x.done(2, 1), 491);
    }

    private static void acts(int kind, int act, int x, int want, int... bodies) {
        MillOfDistances mill = Edge.kinds();
        Edge.due("act " + act + " of " + kind + " with " + x, mill.act(kind, act, x), want);
        Edge.due("bodies", mill.status(6), bodies.length);
        for (int i = 0; i < bodies.length; i++) {
            Edge.due("body " + i, mill.trace(i), bodies[i]);
        }
        Edge.due("no more", mill.trace(bodies.length), -1);
    }

    private static void acts() {
        Edge.term("ACTS of PLACES, with x (wrapping): 0 grinds, 1 strews, 2 blows");
        acts(0, 0, 5, 5, 10);
        acts(0, 1, 5, 10, 11, 10);
        acts(0, 2, 5, 10 ^ -2, 12, 11, 10, 10);
        acts(0, 1, MOST, -2, 11, 10);
        acts(0, 1, LEAST, 0, 11, 10);
        acts(1, 0, MOST, LEAST + 7, 20, 10);
        acts(3, 1, MOST, 2 * (LEAST + 10), 40, 11, 20, 10);
        acts(6, 0, LEAST, 0, 70, 51, 10);
        acts(0, 2, LEAST, MOST - 6, 12, 11, 10, 10);
        Edge.term("m the number, k its a");
        MillOfDistances x = Edge.places(2);
        x.place(1, 9);
        Edge.due("m and k", x.act(2, 0, 100), 100 + 2 + 9);
    }

    private static void bodies() {
        Edge.term("BODIES, each with its number: PLACE: 10 grinds: x + m");
        MillOfDistances x = Edge.kinds();
        Edge.due("m 7", x.act(7, 0, 100), 107);
        Edge.due("its body", x.trace(0), 10);
        Edge.term("11 strews: grinds(x) * 2");
        Edge.due("m 7", x.act(7, 1, 100), 214);
        Edge.term("12 blows: strews(x) ^ grinds(x - k)");
        Edge.due("m 7, k 7", x.act(7, 2, 100), 214 ^ 100);
        Edge.term("HILL: 20 grinds: super.grinds(x) + k");
        acts(1, 0, 100, 108, 20, 10);
        Edge.term("MARSH: 30 strews: super.strews(x) * 3");
        acts(2, 1, 100, 612, 30, 11, 10);
        Edge.term("PEAK: 40 strews: super.strews(x + 1)");
        acts(3, 1, 100, 222, 40, 11, 20, 10);
        Edge.term("TOWN: 50 blows: -super.blows(x)");
        acts(4, 2, 100, -(200 ^ 93), 50, 12, 11, 51, 10, 51, 10);
        Edge.term("51 grinds: super.grinds(x) - m");
        acts(4, 0, 100, 100, 51, 10);
        Edge.term("BOG: 60 blows: super.blows(x) ^ 5");
        acts(5, 2, 100, 630 ^ 98 ^ 5, 60, 12, 30, 11, 10, 10);
        Edge.term("CITY: 70 grinds: super.grinds(x) * 2");
        acts(6, 0, 100, 200, 70, 51, 10);
        Edge.term("71 strews: super.strews(x - k)");
        acts(6, 1, 100, 372, 71, 11, 70, 51, 10);
        acts(6, 2, 100, -(372 ^ 186), 50, 12, 71, 11, 70, 51, 10, 70, 51, 10);
        Edge.term("grinds(..) and so on: the body of the PLACE's KIND, or of the next KIND above that has one");
        acts(3, 0, 100, 110, 20, 10);
        acts(5, 0, 100, 105, 10);
        acts(5, 1, 100, 630, 30, 11, 10);
        acts(1, 1, 100, 216, 11, 20, 10);
        acts(1, 2, 100, 216 ^ 101, 12, 11, 20, 10, 20, 10);
        acts(4, 1, 100, 200, 11, 51, 10);
        acts(2, 2, 100, 612 ^ 95, 12, 30, 11, 10, 10);
        acts(3, 2, 100, 222 ^ 103, 12, 40, 11, 20, 10, 20, 10);
        Edge.term("super: from the KIND above the body's on");
        acts(6, 2, 1, -(-24 ^ -12), 50, 12, 71, 11, 70, 51, 10, 70, 51, 10);
        acts(2, 0, 100, 102, 10);
    }

    private static void trace() {
        Edge.term("THE TRACE: the numbers of the bodies that ran in the latest act(), in the order in which they began");
        MillOfDistances x = Edge.kinds();
        x.act(6, 2, 5);
        x.act(5, 2, 5);
        int[] began = {60, 12, 30, 11, 10, 10, -1};
        for (int i = 0; i < began.length; i++) {
            Edge.due("body " + i, x.trace(i), began[i]);
        }
        Edge.term("the first 20 are kept");
        x.act(6, 2, 5);
        Edge.due("as many as ever run", x.status(6), 10);
        Edge.due("the last of them", x.trace(9), 10);
        for (int i = 10; i < 22; i++) {
            Edge.due("no body " + i, x.trace(i), -1);
        }
    }
}
