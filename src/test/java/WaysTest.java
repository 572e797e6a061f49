/** Promises 18 to 25: AWAY, SHORTEST, WITHIN, the whole, HARM, CHEAPEST, MEET. */
public final class WaysTest {
    public static void main(String[] args) {
        promise18();
        promise19();
        promise20();
        promise21();
        promise21Keep();
        promise22();
        promise23();
        promise24();
        promise24Refused();
        promise25();
        Due.end();
    }

    /** 0-1 5, 1-2 5, 0-3 4, 3-2 6, 0-2 11, 2-4 1; 5-6 999; 7 alone. */
    private static MillOfDistances twoWays() {
        MillOfDistances x = Due.millOf(0, 0, 0, 0, 0, 0, 0, 0);
        Due.roads(x, 0, 1, 5, 1, 2, 5, 0, 3, 4, 3, 2, 6, 0, 2, 11, 2, 4, 1, 5, 6, 999);
        return x;
    }

    private static void promise18() {
        MillOfDistances x = twoWays();
        Due.due("the same", x.away(7, 7), 0);
        Due.due("one ROAD", x.away(0, 1), 5);
        Due.due("by others", x.away(0, 2), 10);
        Due.due("back", x.away(2, 0), 10);
        Due.due("three ROADS", x.away(4, 0), 11);
        Due.due("far", x.away(6, 5), 999);
        Due.due("no WAY", x.away(0, 5), -1);
        Due.due("no WAY to the lonely", x.away(7, 0), -1);
        Due.due("no such PLACE", x.away(0, 8), -11);
        Due.due("PLACE -1", x.away(-1, -1), -11);
        Due.refusals("of aways", x, 2);
        MillOfDistances y = Due.millOf(0, 0, 0, 0, 0, 0, 0, 0);
        for (int p = 0; p < 7; p++) {
            y.road(p, p + 1, 999);
        }
        Due.due("the longest", y.away(0, 7), 6993);
        y.road(0, 4, 999);
        Due.due("a shorter", y.away(7, 0), 3996);
        y.road(0, 4, 0);
        Due.due("the longest again", y.away(7, 0), 6993);
    }

    private static void promise19() {
        MillOfDistances x = twoWays();
        wayIs(x, 0, 2, 0, 1, 2);
        wayIs(x, 2, 0, 2, 1, 0);
        wayIs(x, 0, 4, 0, 1, 2, 4);
        wayIs(x, 4, 3, 4, 2, 3);
        wayIs(x, 7, 7, 7);
        wayIs(x, 5, 6, 5, 6);
        Due.due("no WAY", x.shortest(0, 5, -1), -5);
        Due.due("no WAY's first", x.shortest(0, 5, 0), -5);
        Due.due("no such PLACE", x.shortest(0, 8, 0), -1);
        Due.due("PLACE -1", x.shortest(-1, 0, 99), -1);
        x.road(1, 2, 4);
        x.road(0, 2, 9);
        wayIs(x, 0, 2, 0, 1, 2);
        x.road(0, 2, 8);
        wayIs(x, 0, 2, 0, 2);
        MillOfDistances y = Due.millOf(0, 0, 0, 0);
        Due.roads(y, 0, 3, 10, 0, 2, 5, 2, 3, 5, 0, 1, 2, 1, 2, 3);
        wayIs(y, 0, 3, 0, 1, 2, 3);
        y.road(0, 1, 3);
        wayIs(y, 0, 3, 0, 2, 3);
        wayIs(y, 3, 0, 3, 0);
    }

    private static void wayIs(MillOfDistances x, int from, int to, int... places) {
        String name = "SHORTEST from " + from + " to " + to + ": ";
        Due.due(name + "how many", x.shortest(from, to, -1), places.length);
        for (int i = 0; i < places.length; i++) {
            Due.due(name + i, x.shortest(from, to, i), places[i]);
        }
        int refused = x.status(15);
        Due.due(name + "no such i", x.shortest(from, to, places.length), -5);
        Due.due(name + "the greatest i", x.shortest(from, to, Integer.MAX_VALUE), -5);
        Due.due(name + "-2", x.shortest(from, to, -2), -5);
        Due.due(name + "refusals", x.status(15), refused + 3);
    }

    private static void promise20() {
        MillOfDistances x = twoWays();
        Due.due("within 0", x.within(0, 0), 1);
        Due.due("within 3", x.within(0, 3), 1);
        Due.due("within 4", x.within(0, 4), 1 + 8);
        Due.due("within 5", x.within(0, 5), 1 + 2 + 8);
        Due.due("within 10", x.within(0, 10), 1 + 2 + 4 + 8);
        Due.due("within 11", x.within(0, 11), 31);
        Due.due("within 9999", x.within(0, 9999), 31);
        Due.due("the pair", x.within(6, 9999), 96);
        Due.due("the lonely", x.within(7, 9999), 128);
        Due.due("d -1", x.within(0, -1), -6);
        Due.due("d 10000", x.within(0, 10_000), -6);
        Due.due("no such PLACE", x.within(8, -1), -1);
        Due.due("PLACE -1", x.within(-1, 0), -1);
        Due.refusals("of withins", x, 2, 0, 0, 0, 0, 2);
    }

    private static void promise21() {
        MillOfDistances none = new MillOfDistances();
        Due.due("PARTS of none", none.whole(0), 0);
        Due.due("MIDDLE of none", none.whole(1), -5);
        Due.due("WIDE of none", none.whole(2), 0);
        Due.due("KEEP of none", none.whole(3), 0);
        Due.due("what 4", none.whole(4), -5);
        Due.due("what -1", none.whole(-1), -5);
        Due.refusals("of wholes", none, 0, 0, 0, 0, 3);
        MillOfDistances one = Due.millOf(6);
        Due.due("PARTS of one", one.whole(0), 1);
        Due.due("MIDDLE of one", one.whole(1), 0);
        Due.due("WIDE of one", one.whole(2), 0);
        Due.due("KEEP of one", one.whole(3), 0);
        MillOfDistances x = twoWays();
        Due.due("PARTS", x.whole(0), 3);
        Due.due("MIDDLE where none is near all", x.whole(1), 0);
        Due.due("WIDE", x.whole(2), 999);
        Due.roads(x, 4, 7, 2, 7, 5, 3);
        Due.due("PARTS joined", x.whole(0), 1);
        Due.due("MIDDLE joined", x.whole(1), 5);
        x.road(5, 6, 5);
        Due.due("MIDDLE: the farthest of 4 is 11, of 2 is 11", x.whole(1), 2);
        Due.due("WIDE joined", x.whole(2), 21);
        x.road(2, 4, 2);
        Due.due("MIDDLE by 4", x.whole(1), 2);
        x.road(4, 7, 1);
        Due.due("another MIDDLE", x.whole(1), 2);
        MillOfDistances y = Due.millOf(0, 0, 0, 0, 0);
        Due.roads(y, 4, 3, 1, 3, 2, 1, 2, 1, 1, 1, 0, 1);
        Due.due("the middle of a row", y.whole(1), 2);
        Due.due("its ends", y.whole(2), 4);
        y.road(3, 4, 0);
        Due.due("NONE AWAY counts 10,000", y.whole(1), 0);
        Due.due("NONE left out", y.whole(2), 3);
        Due.due("PARTS of it", y.whole(0), 2);
    }

    private static void promise21Keep() {
        MillOfDistances x = twoWays();
        Due.due("KEEP", x.whole(3), 4 + 5 + 5 + 1 + 999);
        x.road(0, 2, 1);
        Due.due("KEEP by another", x.whole(3), 4 + 5 + 1 + 1 + 999);
        x.road(5, 6, 0);
        Due.due("KEEP of fewer", x.whole(3), 11);
        MillOfDistances y = Due.millOf(0, 0, 0, 0, 0, 0);
        Due.roads(y, 5, 4, 7, 3, 4, 6, 3, 5, 8, 1, 2, 3, 0, 5, 100, 1, 0, 200);
        Due.due("KEEP takes long ROADS where it must", y.whole(3), 7 + 6 + 3 + 100 + 200);
        MillOfDistances z = Due.millOf(0, 0, 0, 0);
        Due.roads(z, 0, 3, 2, 1, 3, 4, 2, 3, 3, 0, 1, 5, 1, 2, 6);
        Due.due("KEEP by the last PLACE", z.whole(3), 2 + 4 + 3);
    }

    private static void promise22() {
        MillOfDistances x = twoWays();
        Due.due("HARM of a ROAD no WAY needs", x.harm(0, 2, 0), 0);
        int cutOff = 4 * (10_000) - (11 + 6 + 1 + 7);
        Due.due("HARM of the ROAD to 4", x.harm(2, 4, 0), cutOff);
        Due.due("HARM back", x.harm(4, 2, 0), cutOff);
        Due.due("CUT from 2", x.harm(2, 4, 1), 16);
        Due.due("CUT from 4", x.harm(4, 2, 1), 15);
        Due.due("CUT of none", x.harm(0, 1, 1), 0);
        Due.due("HARM of 0-1", x.harm(0, 1, 0), 10 + 2);
        Due.due("CUT from 5", x.harm(5, 6, 1), 64);
        Due.due("HARM of 5-6", x.harm(5, 6, 0), 9001);
        Due.due("nothing is changed", x.status(1), 7);
        Due.due("no such PLACE", x.harm(0, 8, 2), -1);
        Due.due("PLACE -1", x.harm(-1, 0, 0), -1);
        Due.due("what 2 of no ROAD", x.harm(0, 0, 2), -5);
        Due.due("what -1", x.harm(0, 1, -1), -5);
        Due.due("the same", x.harm(1, 1, 0), -6);
        Due.due("no ROAD", x.harm(0, 4, 1), -6);
        Due.refusals("of harms", x, 2, 0, 0, 0, 2, 2);
    }

    private static void promise23() {
        MillOfDistances x = Due.millOf(0, 0, 0, 0);
        Due.due("no ROADS", x.leastHarm(), -5);
        Due.due("no PLACES", new MillOfDistances().leastHarm(), -5);
        Due.roads(x, 2, 3, 9);
        Due.due("the only ROAD", x.leastHarm(), 203);
        Due.roads(x, 0, 1, 9);
        Due.due("of several the first", x.leastHarm(), 1);
        x.road(0, 1, 8);
        Due.due("the least", x.leastHarm(), 203);
        Due.roads(x, 1, 2, 1, 0, 2, 20, 1, 3, 30);
        Due.due("the first that nobody needs", x.leastHarm(), 2);
        x.road(0, 2, 0);
        Due.due("the other", x.leastHarm(), 103);
        Due.refusals("of leastHarm", x, 0, 0, 0, 0, 1);
    }

    private static void promise24() {
        MillOfDistances x = new MillOfDistances();
        x.place(0, 0);
        x.place(4, 0);
        x.place(6, 0);
        x.place(3, 0);
        x.place(0, 0);
        Due.roads(x, 0, 1, 20, 1, 2, 20, 2, 3, 20, 0, 3, 65);
        cheapestIs(x, 0, 2, 40, 0, -1, -1);
        cheapestIs(x, 0, 2, 39, 1, 1, 1);
        cheapestIs(x, 0, 2, 30, 9, 102, 10);
        cheapestIs(x, 2, 0, 22, 17, 102, 18);
        cheapestIs(x, 0, 2, 21, 18, 102, 19);
        cheapestIs(x, 0, 2, 20, -1, -1, -1);
        cheapestIs(x, 0, 3, 60, 0, -1, -1);
        cheapestIs(x, 3, 0, 59, 1, 1, 1);
        cheapestIs(x, 0, 3, 42, 17, 102, 18);
        cheapestIs(x, 0, 3, 40, 75, 3, 25);
        cheapestIs(x, 0, 3, 1, 192, 3, 64);
        cheapestIs(x, 0, 4, 9999, -1, -1, -1);
        Due.due("nothing is changed", x.status(2), 125);
        Due.due("there was no FLOUR", x.status(3), 0);
        Due.refusals("of cheapest that stand", x);
        MillOfDistances y = Due.millOf(6, 6, 6);
        Due.roads(y, 0, 1, 9, 1, 2, 9);
        cheapestIs(y, 0, 2, 17, 0, 1, 1);
        cheapestIs(y, 0, 2, 10, 7, 1, 8);
        MillOfDistances z = Due.millOf(0, 1, 0);
        Due.roads(z, 0, 2, 30, 1, 2, 6, 0, 1, 6);
        cheapestIs(z, 0, 2, 11, 2, 1, 1);
        cheapestIs(z, 0, 2, 7, 10, 1, 5);
        cheapestIs(z, 0, 2, 6, 24, 2, 24);
        MillOfDistances t = Due.millOf(4, 4, 4);
        Due.roads(t, 0, 2, 99, 0, 1, 60, 1, 2, 38);
        cheapestIs(t, 0, 2, 88, 9, 1, 10);
        t.road(0, 2, 98);
        cheapestIs(t, 0, 2, 89, 9, 1, 9);
        cheapestIs(t, 0, 2, 88, 9, 1, 10);
    }

    private static void cheapestIs(MillOfDistances x, int p, int q, int d, int cost, int road, int miles) {
        String name = "CHEAPEST of " + p + " " + q + " " + d + ": ";
        Due.due(name + "COST", x.cheapest(p, q, d, 0), cost);
        Due.due(name + "ROAD", x.cheapest(p, q, d, 1), road);
        Due.due(name + "MILES", x.cheapest(p, q, d, 2), miles);
    }

    private static void promise24Refused() {
        MillOfDistances x = Due.millOf(0, 0);
        Due.due("no such PLACE", x.cheapest(0, 2, 0, 3), -11);
        Due.due("PLACE -1", x.cheapest(-1, 0, 1, 0), -11);
        Due.due("what 3", x.cheapest(0, 0, 0, 3), -15);
        Due.due("what -1", x.cheapest(0, 1, 1, -1), -15);
        Due.due("the same", x.cheapest(1, 1, 1, 0), -16);
        Due.due("d 0", x.cheapest(0, 1, 0, 1), -16);
        Due.due("d 10000", x.cheapest(0, 1, 10_000, 2), -16);
        Due.refusals("of cheapest", x, 2, 0, 0, 0, 2, 3);
    }

    private static void promise25() {
        MillOfDistances x = twoWays();
        Due.due("the same", x.meet(4, 4), 4);
        Due.due("of 0 and 2: 1 is 5 from both", x.meet(0, 2), 1);
        Due.due("of 2 and 0", x.meet(2, 0), 1);
        Due.due("of 0 and 4: 1 is 5 and 6, 3 is 4 and 7", x.meet(0, 4), 1);
        x.road(0, 1, 7);
        Due.due("of 0 and 2: 3 is 4 and 6", x.meet(0, 2), 3);
        Due.due("of two at the ends of one ROAD the first", x.meet(6, 5), 5);
        Due.due("of two sets", x.meet(0, 5), -1);
        Due.due("at the first PLACE", x.meet(3, 0), 0);
        Due.due("no such PLACE", x.meet(0, 8), -11);
        Due.due("PLACE -1", x.meet(-1, -1), -11);
        Due.refusals("of meets", x, 2);
    }
}
