/** Promises 9 to 17: PLACES, ROADS, MAPS read from texts, COST and YIELD. */
public final class MapTest {
    public static void main(String[] args) {
        promise9();
        promise10();
        promise11();
        promise12();
        promise13();
        promise14();
        promise14Fails();
        promise14Room();
        promise14Refused();
        promise15();
        promise16();
        promise17();
        Due.end();
    }

    private static void promise9() {
        MillOfDistances x = new MillOfDistances();
        Due.due("KIND -1", x.place(-1, 10), -1);
        Due.due("KIND 7", x.place(7, -1), -1);
        Due.due("a -1", x.place(0, -1), -6);
        Due.due("a 10", x.place(6, 10), -6);
        Due.due("no PLACE yet", x.status(0), 0);
        for (int p = 0; p < 8; p++) {
            Due.due("place", x.place(p % 7, 9 - p), p);
        }
        for (int p = 0; p < 8; p++) {
            Due.due("KIND of " + p, x.placeOf(p, 0), p % 7);
            Due.due("a of " + p, x.placeOf(p, 1), 9 - p);
            Due.due("PLACES " + p + " has ROADS to", x.placeOf(p, 2), 0);
        }
        Due.due("a ninth of a wrong KIND", x.place(7, 0), -1);
        Due.due("a ninth of a wrong a", x.place(0, 10), -6);
        Due.due("a ninth", x.place(0, 0), -7);
        Due.due("PLACES", x.status(0), 8);
        Due.refusals("of places", x, 3, 0, 0, 0, 0, 3, 1);
    }

    private static void promise10() {
        MillOfDistances x = new MillOfDistances();
        x.place(5, 3);
        x.place(0, 9);
        x.place(0, 0);
        Due.roads(x, 0, 1, 7, 2, 0, 999);
        Due.due("KIND", x.placeOf(0, 0), 5);
        Due.due("a", x.placeOf(0, 1), 3);
        Due.due("PLACES it has ROADS to", x.placeOf(0, 2), 6);
        Due.due("all MILES of these", x.placeOf(0, 3), 1006);
        Due.due("a of 1", x.placeOf(1, 1), 9);
        Due.due("ROADS of 1", x.placeOf(1, 2), 1);
        Due.due("MILES of 2", x.placeOf(2, 3), 999);
        Due.due("no such PLACE", x.placeOf(3, 0), -5);
        Due.due("PLACE -1", x.placeOf(-1, 9), -5);
        Due.due("what 4", x.placeOf(0, 4), -5);
        Due.due("what -1", x.placeOf(0, -1), -5);
        Due.refusals("of placeOf", x, 0, 0, 0, 0, 4);
    }

    private static void promise11() {
        MillOfDistances x = Due.millOf(0, 0, 0);
        Due.due("a ROAD", x.road(0, 1, 1), 0);
        Due.due("from the other end", x.road(1, 0, 999), 1);
        Due.due("the other way about", x.miles(0, 1), 999);
        Due.due("no ROAD", x.road(0, 1, 0), 999);
        Due.due("it is gone", x.miles(1, 0), 0);
        Due.due("it was gone", x.road(0, 1, 0), 0);
        Due.due("ROADS", x.status(1), 0);
        Due.due("no such PLACE", x.road(0, 3, 1000), -1);
        Due.due("PLACE -1", x.road(-1, 0, 1), -1);
        Due.due("two that aren't there", x.road(3, 3, 1), -1);
        Due.due("the same", x.road(1, 1, 0), -6);
        Due.due("-1 MILES", x.road(0, 1, -1), -6);
        Due.due("1000 MILES", x.road(0, 1, 1000), -6);
        Due.due("nothing has changed", x.status(2), 0);
        Due.refusals("of roads", x, 3, 0, 0, 0, 0, 3);
    }

    private static void promise12() {
        MillOfDistances x = Due.millOf(0, 0, 0);
        Due.roads(x, 2, 0, 31);
        Due.due("miles", x.miles(0, 2), 31);
        Due.due("miles back", x.miles(2, 0), 31);
        Due.due("no ROAD", x.miles(0, 1), 0);
        Due.due("no such PLACE", x.miles(3, 3), -11);
        Due.due("PLACE -1", x.miles(0, -1), -11);
        Due.due("the same", x.miles(2, 2), -16);
        Due.refusals("of miles", x, 2, 0, 0, 0, 0, 1);
    }

    private static void promise13() {
        MillOfDistances x = new MillOfDistances();
        Due.due("all FLOUR", x.ask(0, 99_999), 0);
        Due.due("no FLOUR", x.ask(0, 0), 99_999);
        Due.due("some FLOUR", x.ask(0, 12), 0);
        Due.due("all WIND", x.ask(1, 9), 0);
        Due.due("no WIND", x.ask(1, 0), 9);
        Due.due("some WIND", x.ask(1, 3), 0);
        Due.due("FLOUR -1", x.ask(0, -1), -6);
        Due.due("FLOUR 100000", x.ask(0, 100_000), -6);
        Due.due("WIND -1", x.ask(1, -1), -6);
        Due.due("WIND 10", x.ask(1, 10), -6);
        Due.due("another what", x.ask(2, 0), -6);
        Due.due("what -1", x.ask(-1, 0), -6);
        Due.due("FLOUR stays", x.status(3), 12);
        Due.due("WIND stays", x.status(4), 3);
        Due.refusals("of asks", x, 0, 0, 0, 0, 0, 6);
    }

    private static void promise14() {
        MillOfDistances x = new MillOfDistances();
        Due.mapStands(x, "place 6 9", 1);
        Due.mapStands(x, "place 00000 00003;road 0 1 00999;wind 9;flour 99999", 4);
        Due.due("KIND read", x.placeOf(0, 0), 6);
        Due.due("a read", x.placeOf(0, 1), 9);
        Due.due("MILES read", x.miles(0, 1), 999);
        Due.due("WIND read", x.status(4), 9);
        Due.due("FLOUR read", x.status(3), 99_999);
        Due.mapStands(x, "road 1 0 40;flour 0", 2);
        Due.due("whatever there was", x.miles(0, 1), 40);
        Due.mapStands(x, "mill 0 1;road 0 1 30;near 0 1 20;far 1 0 7;wind 0", 5);
        Due.due("MILES behind all", x.miles(0, 1), 17);
        Due.due("FLOUR behind all", x.status(3), 40 - 20 - 7);
        Due.due("WIND behind all", x.status(4), 0);
        Due.due("PLACES behind all", x.status(0), 2);
        Due.mapStands(x, "flour 99;road 0 1 1;far 0 1 2;near 0 1 2;road 0 1 999;near 0 1 2", 6);
        Due.due("the least and the greatest of MILES", x.miles(0, 1), 997);
        MillOfDistances y = new MillOfDistances();
        String text = "place 1 2";
        y.row(0, 3, text.length());
        for (int i = 0; i < text.length(); i++) {
            y.set(0, i, text.charAt(i) + (7L << 32));
        }
        Due.due("longs count by their lowest bits", y.map(0), 1);
        Due.due("a HILL", y.placeOf(0, 0), 1);
        y.row(1, 2, 1);
        y.set(1, 0, 'p' + 256);
        Due.due("ints count whole", y.map(1), -6);
        Due.due("at the first", y.fault(), 0);
    }

    private static void promise14Fails() {
        String words = "place 0 0;place 1 0;road 0 1 5;";
        int n = words.length();
        MillOfDistances x = new MillOfDistances();
        x.row(7, 0, 0);
        Due.due("an empty text", x.map(7), -6);
        Due.due("ends too early", x.fault(), 0);
        Due.mapFails(x, "x", 0);
        Due.mapFails(x, "fl", 2);
        Due.mapFails(x, "flaur 1", 2);
        Due.mapFails(x, "fx", 1);
        Due.mapFails(x, "place0 0", 5);
        Due.mapFails(x, "place  0 0", 6);
        Due.mapFails(x, "place 0 0 ", 9);
        Due.mapFails(x, "place 0 0;", 10);
        Due.mapFails(x, "place 0 0; place 0 0", 10);
        Due.mapFails(x, "place 0", 7);
        Due.mapFails(x, "place 0 ", 8);
        Due.mapFails(x, "place 7 99", 6);
        Due.mapFails(x, "place 0 10", 8);
        Due.mapFails(x, "wind 10", 5);
        Due.mapFails(x, "wind 1x", 6);
        Due.mapFails(x, "flour -1", 6);
        Due.mapFails(x, "flour 000001", 11);
        Due.mapFails(x, "Place 0 0", 0);
        Due.mapFails(x, "road 0 1 5", 5);
        Due.due("nothing was told", x.status(0), 0);
        MillOfDistances y = new MillOfDistances();
        Due.mapFails(y, words + "road 0 2 5", n + 7);
        Due.mapFails(y, words + "road 1 01 5", n + 7);
        Due.mapFails(y, words + "road 0 1 1000", n + 9);
        Due.mapFails(y, words + "near 0 1 1", n + 9);
        Due.mapFails(y, words + "flour 9;near 0 1 5", n + 17);
        Due.mapFails(y, words + "mill 0 1;mill 1 0", n + 16);
        Due.due("nothing was told to y", y.status(0), 0);
        Due.due("no FLOUR came to y", y.status(3), 0);
        MillOfDistances z = Due.millOf(0, 0, 0);
        Due.roads(z, 0, 1, 990);
        z.ask(0, 9);
        Due.mapFails(z, "far 0 1 10", 8);
        Due.mapFails(z, "near 0 1 10", 9);
        Due.mapFails(z, "near 0 2 1", 9);
        Due.mapFails(z, "near 0 2 ", 9);
        Due.mapFails(z, "near 0 1 0", 9);
        Due.mapFails(z, "far 0 0 1", 6);
        Due.mapFails(z, "mill 0 2", 7);
        Due.mapFails(z, "mill 3 0", 5);
        Due.mapFails(z, "near 3 3 1", 5);
        Due.mapFails(z, "road 1 1 9", 7);
        Due.mapStands(z, "far 0 1 9", 1);
        Due.due("999 MILES", z.miles(0, 1), 999);
    }

    private static void promise14Room() {
        MillOfDistances x = Due.millOf(0, 0, 0, 0, 0, 0, 0);
        Due.mapFails(x, "place 0 0;place 0 0", 10);
        Due.mapFails(x, "place 0 0;place", 10);
        Due.mapFails(x, "place 0 0;plac", 14);
        Due.mapFails(x, "place 0 0;placx 0 0", 14);
        Due.due("still seven", x.status(0), 7);
        Due.mapStands(x, "place 0 0", 1);
        Due.due("eight", x.status(0), 8);
        Due.mapFails(x, "place 9 9", 0);
        Due.mapStands(x, "road 7 0 3", 1);
        Due.due("a ROAD to the eighth", x.miles(0, 7), 3);
    }

    private static void promise14Refused() {
        MillOfDistances x = Due.millOf(0);
        x.show(1, 0);
        x.row(2, 0, 1);
        Due.due("SHELF -1", x.map(-1), -1);
        Due.due("SHELF 8", x.map(8), -1);
        Due.due("a PLACE", x.map(1), -2);
        Due.due("NOTHING", x.map(0), -3);
        Due.due("a FAULT", x.map(2), -6);
        Due.refusals("of maps", x, 2, 1, 1, 0, 0, 1);
    }

    private static void promise15() {
        MillOfDistances x = Due.millOf(0);
        Due.due("none yet", x.fault(), -1);
        x.map(5);
        Due.due("none yet: it came to no ROW", x.fault(), -1);
        Due.mapFails(x, "wind ", 5);
        x.map(5);
        x.map(8);
        x.show(6, 0);
        x.map(6);
        Due.due("the latest that came to a ROW", x.fault(), 5);
        x.image();
        x.restore();
        Due.due("no part of THE IMAGE", x.fault(), 5);
        Due.mapFails(x, "wund 1", 1);
        Due.mapStands(x, "wind 1", 1);
        Due.refusals("of map and fault", x, 1, 1, 2, 0, 0, 2);
    }

    private static void promise16() {
        MillOfDistances x = new MillOfDistances();
        for (int kind = 0; kind < 7; kind++) {
            x.place(kind, 7);
        }
        x.place(6, 0);
        int[][] asks = {{1, 2, 8, 3, 1, 9, 0}, {10, 20, 17, 30, 9, 27, 8}, {99, 198, 106, 297, 90, 205, 89},
            {998, 1996, 1005, 2994, 899, 2003, 898}};
        int[] miles = {1, 10, 99, 998};
        for (int i = 0; i < miles.length; i++) {
            for (int kind = 0; kind < 7; kind++) {
                int alone = Math.max(asks[i][kind], asks[i][6]);
                Due.due("COST of " + miles[i] + " by " + kind, x.cost(kind, 7, miles[i]), alone);
                Due.due("COST back of " + miles[i] + " by " + kind, x.cost(7, kind, miles[i]), alone);
                for (int other = 0; other < kind; other++) {
                    Due.due("COST of " + miles[i] + " by " + kind + " and " + other, x.cost(kind, other, miles[i]),
                            Math.max(asks[i][kind], asks[i][other]));
                }
            }
        }
        Due.due("no such PLACE", x.cost(0, 8, 0), -1);
        Due.due("PLACE -1", x.cost(-1, 0, 1), -1);
        Due.due("the same", x.cost(1, 1, 1), -6);
        Due.due("0 MILES", x.cost(0, 1, 0), -6);
        Due.due("-5 MILES", x.cost(0, 1, -5), -6);
        Due.due("999 MILES", x.cost(0, 1, 999), -6);
        Due.refusals("of costs", x, 2, 0, 0, 0, 0, 4);
        MillOfDistances y = new MillOfDistances();
        y.place(2, 0);
        y.place(2, 5);
        Due.due("a of one MARSH of two", y.cost(0, 1, 3), 8);
    }

    private static void promise17() {
        MillOfDistances x = Due.millOf(0, 1, 2, 3, 4, 5, 6);
        int[][] want = {
            {0, 1, 15, 12}, {0, 2, 15, 7}, {0, 3, 19, 15}, {0, 4, 19, 19},
            {0, 5, 19, 9}, {0, 6, 19, 19}, {1, 2, 15, 6}, {1, 5, 19, 7}, {1, 3, 999, 750}, {2, 3, 1, 0},
            {2, 5, 999, 499}, {3, 5, 999, 375}, {1, 4, 3, 3}, {1, 6, 4, 3}, {2, 6, 1, 0}, {3, 4, 1, 1}
        };
        for (int i = 0; i < want.length; i++) {
            int p = want[i][0];
            int q = want[i][1];
            x.road(p, q, want[i][2]);
            Due.due("YIELD of " + p + " " + q, x.yields(p, q), want[i][3]);
            Due.due("YIELD of " + q + " " + p, x.yields(q, p), want[i][3]);
        }
        Due.due("no such PLACE", x.yields(0, 7), -1);
        Due.due("two that aren't there", x.yields(-1, -1), -1);
        Due.due("the same", x.yields(1, 1), -6);
        Due.due("no ROAD", x.yields(4, 5), -6);
        Due.refusals("of yields", x, 2, 0, 0, 0, 0, 2);
    }
}
