/** The Terms of THE MAP, of milling and spreading, a sentence at a time. */
final class TermsMap {
    private TermsMap() {
    }

    static void run() {
        places();
        under();
        numbers();
        items();
        itemsInTruth();
        blanks();
        digits();
        allOrNothing();
        room();
        mayNot();
        faults();
        tooEarly();
        firstDigit();
        rates();
        townAndCity();
        yields();
        mills();
        nearAndFar();
        mayBe();
        ways();
    }

    // ---- 1. THE MAP ----

    private static void places() {
        Edge.term("PLACES have numbers, from 0 on, 8 at most, each of a KIND: 0 PLACE");
        MillOfDistances x = Edge.empty();
        for (int p = 0; p < 8; p++) {
            Edge.due("the number", x.place(0, 9), p);
        }
        Edge.due("a ninth", x.place(0, 9), -7);
        Edge.due("by a text", Edge.text(x, "place 0 9").map(7), -6);
        Edge.due("there are eight", x.status(0), 8);
        Edge.term("a (0 to 9)");
        Edge.gives(Edge::empty, 0, y -> y.place(3, 0));
        Edge.gives(Edge::empty, 0, y -> y.place(3, 9));
        Edge.refuses(Edge::empty, -6, y -> y.place(3, -1), y -> y.place(3, 10));
        Edge.reads(Edge::empty, "place 3 9", 1);
        Edge.fails(Edge::empty, "place 3 10", 8);
    }

    /** The KINDS a PLACE of each KIND may be taken for, as bits. */
    private static void under() {
        String[] words = {"1 HILL, 2 MARSH, 4 TOWN, each under PLACE", "3 PEAK, under HILL", "5 BOG, under MARSH",
            "6 CITY, under TOWN"};
        int[][] kinds = {{1, 2, 4}, {3}, {5}, {6}};
        int[] above = {1, 3, 5, 11, 17, 37, 81};
        for (int k = 0; k < words.length; k++) {
            Edge.term(words[k]);
            for (int kind : kinds[k]) {
                MillOfDistances x = Edge.kinds();
                x.show(0, kind);
                for (int taken = 0; taken < 7; taken++) {
                    boolean may = (above[kind] >> taken & 1) != 0;
                    Edge.due(kind + " taken for " + taken, x.says(0, taken) == -2 ? 0 : 1, may ? 1 : 0);
                }
            }
        }
    }

    private static void numbers() {
        Edge.term("ROADS: between two PLACES one at most, of so many MILES (1 to 999)");
        MillOfDistances x = Edge.places(2);
        x.road(0, 1, 5);
        x.road(1, 0, 7);
        Edge.due("one ROAD", x.status(1), 1);
        Edge.due("of 7", x.status(2), 7);
        Edge.gives(() -> Edge.places(2), 999, y -> y.road(0, 1, 999) + y.miles(0, 1));
        Edge.refuses(() -> Edge.places(2), -6, y -> y.road(0, 1, 1000));
        Edge.fails(() -> Edge.places(2), "road 0 1 1000", 9);
        Edge.fails(() -> Edge.places(2), "road 0 1 0", 9);
        Edge.reads(() -> Edge.places(2), "road 0 1 999;road 0 1 1", 2);
        Edge.term("FLOUR: pinches there are (0 to 99,999; 0 at first; more than may be is lost)");
        Edge.asks(Edge::empty, 0, y -> y.status(3));
        Edge.gives(Edge::empty, 0, y -> y.ask(0, 99_999));
        Edge.refuses(Edge::empty, -6, y -> y.ask(0, 100_000), y -> y.ask(0, -1));
        MillOfDistances z = Edge.roads(Edge.places(3), 0, 1, 999, 1, 2, 10);
        z.ask(0, 99_990);
        Edge.due("by milling: lost", z.mill(0, 1), 99_999);
        z.ask(0, 99_990);
        Edge.text(z, "mill 1 2");
        Edge.due("by a text", z.map(7), 1);
        Edge.due("lost, too", z.status(3), 99_999);
        Edge.term("WIND (0 to 9; 0 at first)");
        Edge.asks(Edge::empty, 0, y -> y.status(4));
        Edge.gives(Edge::empty, 0, y -> y.ask(1, 9));
        Edge.refuses(Edge::empty, -6, y -> y.ask(1, 10), y -> y.ask(1, -1));
    }

    private static void items() {
        Edge.term("A MAP is read from a ROW of letters: ITEM, then any number of times ; and ITEM");
        Edge.reads(Edge::empty, "wind 1", 1);
        Edge.reads(Edge::empty, "wind 1;flour 1", 2);
        Edge.fails(Edge::empty, "", 0);
        Edge.fails(Edge::empty, ";", 0);
        Edge.fails(Edge::empty, ";wind 1", 0);
        Edge.fails(Edge::empty, "wind 1;", 7);
        Edge.fails(Edge::empty, "wind 1;;wind 1", 7);
        Edge.fails(Edge::empty, "wind 1,wind 1", 6);
        Edge.term("and ITEM: place K A (KIND, a)");
        MillOfDistances x = Edge.reads(Edge::empty, "place 6 0;place 0 9", 2);
        Edge.due("KIND", x.placeOf(0, 0), 6);
        Edge.due("a", x.placeOf(0, 1), 0);
        Edge.due("the other's KIND", x.placeOf(1, 0), 0);
        Edge.due("the other's a", x.placeOf(1, 1), 9);
        Edge.fails(Edge::empty, "place 7 0", 6);
        Edge.term("road P Q N (N MILES, whatever there was)");
        MillOfDistances y = Edge.reads(Edge::all, "road 0 3 999;road 1 0 1", 2);
        Edge.due("a new one", y.miles(3, 0), 999);
        Edge.due("in place of another", y.miles(0, 1), 1);
        Edge.due("no FLOUR for it", y.status(3), 500);
        Edge.term("flour N");
        Edge.due("FLOUR", Edge.reads(Edge::all, "flour 0", 1).status(3), 0);
        Edge.due("FLOUR", Edge.reads(Edge::all, "flour 99999", 1).status(3), 99_999);
        Edge.term("wind N");
        Edge.due("WIND", Edge.reads(Edge::all, "wind 0", 1).status(4), 0);
        Edge.due("WIND", Edge.reads(Edge::all, "wind 9", 1).status(4), 9);
        Edge.fails(Edge::all, "wind 10", 5);
    }

    private static void itemsInTruth() {
        Edge.term("mill P Q (a ROAD there is, in truth)");
        MillOfDistances x = Edge.reads(Edge::all, "mill 1 2", 1);
        Edge.due("the ROAD is gone", x.miles(1, 2), 0);
        Edge.due("FLOUR", x.status(3), 520);
        Edge.fails(Edge::all, "mill 0 3", 7);
        Edge.fails(Edge::all, "mill 1 2;mill 1 2", 16);
        Edge.term("near P Q N (in truth, if it MAY be), far P Q N (likewise)");
        MillOfDistances y = Edge.reads(Edge::all, "near 0 1 9", 1);
        Edge.due("NEAR", y.miles(0, 1), 1);
        Edge.due("takes FLOUR", y.status(3), 491);
        MillOfDistances z = Edge.reads(Edge::all, "far 0 1 489", 1);
        Edge.due("FAR", z.miles(0, 1), 499);
        Edge.due("takes FLOUR", z.status(3), 11);
        Edge.fails(Edge::all, "near 0 1 10", 9);
        Edge.fails(Edge::all, "far 0 1 501", 8);
    }

    private static void blanks() {
        Edge.term("One blank between words and NUMBERS (1 to 5 digits)");
        Edge.fails(Edge::empty, "wind1", 4);
        Edge.fails(Edge::empty, "wind  1", 5);
        Edge.fails(Edge::empty, " wind 1", 0);
        Edge.fails(Edge::empty, "wind 1 ", 6);
        Edge.fails(Edge::empty, "wind 1 ;wind 1", 6);
        Edge.fails(Edge::empty, "wind 1; wind 1", 7);
        Edge.fails(Edge::empty, "place 0  1", 8);
        Edge.fails(Edge::empty, "place 0,1", 7);
        Edge.fails(Edge::empty, "wind\t1", 4);
        Edge.reads(Edge::empty, "flour 7", 1);
        Edge.reads(Edge::empty, "flour 12345", 1);
        Edge.fails(Edge::empty, "flour 123456", 11);
        Edge.fails(Edge::empty, "flour 99999999999", 11);
        Edge.fails(Edge::empty, "flour ", 6);
        Edge.fails(Edge::empty, "flour x", 6);
    }

    private static void digits() {
        Edge.term("Numbers of a text may begin with 0");
        Edge.due("FLOUR", Edge.reads(Edge::empty, "flour 00000", 1).status(3), 0);
        Edge.due("WIND", Edge.reads(Edge::empty, "wind 00009", 1).status(4), 9);
        Edge.fails(Edge::empty, "wind 000009", 10);
        Edge.fails(Edge::empty, "wind 00010", 5);
        Edge.due("MILES", Edge.reads(Edge::all, "road 00 03 00012", 1).miles(0, 3), 12);
        Edge.due("KIND", Edge.reads(Edge::empty, "place 06 00", 1).placeOf(0, 0), 6);
        Edge.due("NEAR", Edge.reads(Edge::all, "near 000 01 009", 1).miles(0, 1), 1);
    }

    private static void allOrNothing() {
        Edge.term("All is told over what there is, or nothing");
        MillOfDistances x = Edge.reads(Edge::all, "place 1 1;road 4 0 8;near 0 4 7;wind 3", 4);
        Edge.due("PLACES", x.status(0), 5);
        Edge.due("what there was", x.miles(2, 3), 30);
        Edge.due("NEAR in it", x.miles(0, 4), 1);
        Edge.due("FLOUR of it", x.status(3), 486);
        Edge.fails(Edge::all, "place 1 1;road 4 0 8;near 0 4 7;wind 3;", 39);
        Edge.fails(Edge::all, "mill 0 1;mill 1 2;flour 9;wind 1;far 2 3 10", 41);
        Edge.fails(Edge::empty, "place 1 1;flour 5;place 9 9", 24);
    }

    private static void room() {
        Edge.term("what there is no room for can't stand: its word, once that is whole");
        Edge.fails(() -> Edge.places(8), "place 0 0", 0);
        Edge.fails(() -> Edge.places(8), "place 9 9", 0);
        Edge.fails(() -> Edge.places(8), "wind 1;place 0 0", 7);
        Edge.fails(() -> Edge.places(7), "place 0 0;wind 1;place 0 0", 17);
        Edge.reads(() -> Edge.places(7), "place 0 0;wind 1", 2);
        Edge.term("Whether there is room for a word is asked when its letters stand whole: until then the first element"
                + " that is not as it is the FAULT, or the number of elements.");
        Edge.fails(() -> Edge.places(8), "place", 0);
        Edge.fails(() -> Edge.places(8), "placex", 0);
        Edge.fails(() -> Edge.places(8), "plac", 4);
        Edge.fails(() -> Edge.places(8), "p", 1);
        Edge.fails(() -> Edge.places(8), "plack 0 0", 4);
        Edge.fails(() -> Edge.places(8), "plac 0 0", 4);
        Edge.fails(() -> Edge.places(7), "place", 5);
        Edge.fails(() -> Edge.places(8), "wind 1;pl", 9);
    }

    private static void mayNot() {
        Edge.term("the same PLACE, or no ROAD to mill: Q");
        Edge.fails(Edge::all, "road 1 1 5", 7);
        Edge.fails(Edge::all, "mill 1 1", 7);
        Edge.fails(Edge::all, "near 1 1 5", 7);
        Edge.fails(Edge::all, "far 1 1 5", 6);
        Edge.fails(Edge::all, "near 1 1", 7);
        Edge.fails(Edge::all, "mill 3 0", 7);
        Edge.fails(Edge::all, "mill 03 00", 8);
        Edge.fails(Edge::all, "mill 0 4", 7);
        Edge.fails(Edge::all, "mill 4 0", 5);
        Edge.term("what MAY not be: N");
        Edge.fails(Edge::all, "near 0 3 5", 9);
        Edge.fails(Edge::all, "far 0 3 5", 8);
        Edge.fails(Edge::all, "near 0 1 10", 9);
        Edge.fails(Edge::all, "far 2 3 970", 8);
        Edge.fails(Edge::all, "far 2 3 501", 8);
        Edge.fails(Edge::all, "near 0 1 0", 9);
        Edge.fails(Edge::all, "far 0 1 0", 8);
        Edge.fails(Edge::all, "flour 0;near 0 1 1", 17);
        Edge.fails(() -> Edge.roads(Edge.places(2), 0, 1, 999), "flour 9999;near 0 1 999", 20);
        Edge.reads(() -> Edge.roads(Edge.places(2), 0, 1, 999), "flour 998;near 0 1 998", 2);
    }

    private static void faults() {
        Edge.term("The FAULT: the first place at which an element can't stand as such texts go on");
        String[] words = {"place", "road", "mill", "flour", "wind", "near", "far"};
        for (String word : words) {
            for (int i = 0; i < word.length(); i++) {
                Edge.fails(Edge::all, word.substring(0, i) + "#", i);
                Edge.fails(Edge::all, "wind 1;" + word.substring(0, i) + " ", 7 + i);
            }
            Edge.fails(Edge::all, word + "#", word.length());
            Edge.fails(Edge::all, word + ";", word.length());
            Edge.fails(Edge::all, word + " #", word.length() + 1);
            Edge.fails(Edge::all, word + " ;", word.length() + 1);
        }
        Edge.fails(Edge::all, "fa 1 2", 2);
        Edge.fails(Edge::all, "flar 1", 2);
        Edge.fails(Edge::all, "faour 1", 2);
        Edge.fails(Edge::all, "WIND 1", 0);
        Edge.fails(Edge::all, "wind +1", 5);
        Edge.fails(Edge::all, "wind -1", 5);
        Edge.fails(Edge::all, "road 0 1;", 8);
        Edge.fails(Edge::all, "mill 0 1 2", 8);
        Edge.fails(Edge::all, "flour 1 2", 7);
        Edge.fails(Edge::all, "wind 1x", 6);
        Edge.fails(Edge::all, "wind 1\0", 6);
    }

    private static void tooEarly() {
        Edge.term("(the number of elements, if it ends too early)");
        String whole = "road 0 1 5;wind 1";
        for (int n = 0; n <= whole.length(); n++) {
            if (n == 10 || n == 17) {
                Edge.reads(Edge::all, whole.substring(0, n), n == 10 ? 1 : 2);
            } else {
                Edge.fails(Edge::all, whole.substring(0, n), n);
            }
        }
    }

    private static void firstDigit() {
        Edge.term("of a NUMBER that may not be the place of its first digit");
        Edge.fails(Edge::all, "place 7 0", 6);
        Edge.fails(Edge::all, "place 007 0", 6);
        Edge.fails(Edge::all, "place 10 0", 6);
        Edge.fails(Edge::all, "place 0 010", 8);
        Edge.fails(Edge::all, "place 99999 99999", 6);
        Edge.fails(Edge::all, "road 4 0 5", 5);
        Edge.fails(Edge::all, "road 0 04 5", 7);
        Edge.fails(Edge::all, "road 0 1 01000", 9);
        Edge.fails(Edge::all, "road 9 9 9999", 5);
        Edge.fails(Edge::all, "wind 99999", 5);
        Edge.fails(Edge::all, "wind 10x", 5);
        Edge.fails(Edge::all, "far 0 1 99999", 8);
        Edge.fails(Edge::empty, "road 0 0 1", 5);
        Edge.fails(Edge::all, "wind 999999", 5);
        Edge.fails(Edge::all, "wind 000000", 10);
    }

    // ---- 2. MILLING AND SPREADING ----

    /** What a PLACE of this KIND, a 7, asks for n MILES. */
    private static void rate(int kind, int n, int pinches) {
        Edge.asks(() -> {
            MillOfDistances x = Edge.empty();
            x.place(kind, 7);
            x.place(kind, 7);
            return x;
        }, pinches, x -> x.cost(1, 0, n));
    }

    private static void rates() {
        Edge.term("RATE of a PLACE: pinches for a mile: PLACE 1");
        rate(0, 1, 1);
        rate(0, 998, 998);
        Edge.term("HILL 2");
        rate(1, 1, 2);
        rate(1, 998, 1996);
        Edge.term("PEAK 3");
        rate(3, 1, 3);
        rate(3, 998, 2994);
        Edge.term("MARSH 1, and a once for each spreading");
        rate(2, 1, 8);
        rate(2, 998, 1005);
        MillOfDistances x = Edge.empty();
        x.place(2, 0);
        x.place(2, 9);
        Edge.due("a 0 and a 9", x.cost(0, 1, 1), 10);
        x.road(0, 1, 10);
        x.ask(0, 100);
        x.spread(0, 1, -1);
        x.spread(0, 1, 1);
        Edge.due("once for each", x.status(3), 80);
        Edge.term("BOG 2 a mile (in place of 1), and a once for each spreading likewise");
        rate(5, 1, 9);
        rate(5, 998, 2003);
        Edge.term("COST of n MILES between two: the greater of what each of the two asks for");
        Edge.asks(Edge::kinds, 20, y -> y.cost(0, 1, 10));
        Edge.asks(Edge::kinds, 20, y -> y.cost(1, 2, 10));
        Edge.asks(Edge::kinds, 10, y -> y.cost(1, 2, 3));
        Edge.asks(Edge::kinds, 14, y -> y.cost(2, 1, 7));
        Edge.asks(Edge::kinds, 16, y -> y.cost(2, 1, 8));
    }

    private static void townAndCity() {
        Edge.term("TOWN 1, a mile in ten free (of n MILES n less n by 10, cut)");
        int[][] town = {{1, 1}, {9, 9}, {10, 9}, {11, 10}, {19, 18}, {20, 18}, {99, 90}, {100, 90}, {998, 899}};
        for (int[] n : town) {
            rate(4, n[0], n[1]);
        }
        Edge.term("CITY: as TOWN, 1 pinch less in all (0 at least)");
        for (int[] n : town) {
            rate(6, n[0], n[1] - 1);
        }
        MillOfDistances x = Edge.empty();
        x.place(6, 0);
        x.place(6, 0);
        x.road(0, 1, 5);
        Edge.due("1 MILE is free", x.spread(0, 1, -1), 4);
        Edge.due("without FLOUR", x.status(3), 0);
        Edge.due("2 MILES are not", x.spread(0, 1, -2), -6);
    }

    private static void yieldIs(int one, int other, int miles, int pinches) {
        Edge.Mill mill = () -> {
            MillOfDistances x = Edge.empty();
            x.place(one, 9);
            x.place(other, 9);
            x.road(0, 1, miles);
            return x;
        };
        Edge.asks(mill, pinches, x -> x.yields(0, 1));
        Edge.asks(mill, pinches, x -> x.yields(1, 0));
    }

    private static void yields() {
        Edge.term("YIELD of a ROAD: its MILES");
        yieldIs(0, 0, 1, 1);
        yieldIs(0, 4, 999, 999);
        yieldIs(6, 4, 7, 7);
        Edge.term("a fourth less (cut), if one of its ends is a HILL (PEAK, too)");
        int[][] fourth = {{1, 1}, {3, 3}, {4, 3}, {7, 6}, {8, 6}, {999, 750}};
        for (int[] n : fourth) {
            yieldIs(1, 0, n[0], n[1]);
            yieldIs(3, 6, n[0], n[1]);
            yieldIs(1, 3, n[0], n[1]);
        }
        Edge.term("half of that again (cut), if one is a MARSH (BOG, too)");
        int[][] half = {{1, 0}, {2, 1}, {3, 1}, {999, 499}};
        for (int[] n : half) {
            yieldIs(2, 0, n[0], n[1]);
            yieldIs(4, 5, n[0], n[1]);
            yieldIs(2, 5, n[0], n[1]);
        }
        Edge.term("YIELD: MILES less MILES by 4 (cut); of that half (cut).");
        int[][] both = {{1, 0}, {2, 1}, {4, 1}, {5, 2}, {7, 3}, {9, 3}, {10, 4}, {999, 375}};
        for (int[] n : both) {
            yieldIs(1, 2, n[0], n[1]);
            yieldIs(5, 3, n[0], n[1]);
        }
    }

    private static void mills() {
        Edge.term("MILL: the ROAD is gone, FLOUR its YIELD more");
        MillOfDistances x = Edge.roads(Edge.kinds(), 1, 2, 9, 0, 7, 1);
        Edge.due("mill", x.mill(2, 1), 3);
        Edge.due("gone", x.miles(1, 2), 0);
        Edge.due("the other", x.mill(0, 7), 4);
        Edge.due("no ROADS", x.status(1), 0);
    }

    private static MillOfDistances two(int miles, int flour) {
        MillOfDistances x = Edge.roads(Edge.places(3), 0, 1, miles);
        x.ask(0, flour);
        return x;
    }

    private static void nearAndFar() {
        Edge.term("NEAR by n (1 to 998): a ROAD has n MILES less (1 at least must be left), FAR by n: n more (999 at most)");
        Edge.gives(() -> two(999, 9999), 1, x -> x.spread(0, 1, -998));
        Edge.refuses(() -> two(999, 9999), -6, x -> x.spread(0, 1, -999));
        Edge.gives(() -> two(10, 9999), 1, x -> x.spread(0, 1, -9));
        Edge.refuses(() -> two(10, 9999), -6, x -> x.spread(0, 1, -10), x -> x.spread(0, 1, -11), x -> x.spread(0, 1, 0));
        Edge.refuses(() -> two(1, 9999), -6, x -> x.spread(0, 1, -1));
        Edge.gives(() -> two(1, 9999), 999, x -> x.spread(0, 1, 998));
        Edge.refuses(() -> two(1, 9999), -6, x -> x.spread(0, 1, 999));
        Edge.gives(() -> two(10, 9999), 999, x -> x.spread(0, 1, 989));
        Edge.refuses(() -> two(10, 9999), -6, x -> x.spread(0, 1, 990));
        Edge.refuses(() -> two(999, 9999), -6, x -> x.spread(0, 1, 1));
        Edge.term("it takes COST");
        Edge.gives(() -> two(10, 9), 0, x -> x.spread(0, 1, -9) - 1 + x.status(3));
        Edge.gives(() -> two(10, 9), 8, x -> x.spread(0, 1, 1) - 11 + x.status(3));
    }

    private static void mayBe() {
        Edge.term("It MAY be, if there is the ROAD, the MILES allow it, and there is FLOUR enough");
        Edge.gives(() -> two(10, 5), 5, x -> x.spread(0, 1, -5));
        Edge.gives(() -> two(10, 5), 15, x -> x.spread(0, 1, 5));
        Edge.refuses(() -> two(10, 5), -6, x -> x.spread(0, 1, -6), x -> x.spread(0, 1, 6), x -> x.spread(0, 2, 1),
                x -> x.spread(1, 2, -1));
        Edge.refuses(() -> two(10, 0), -6, x -> x.spread(0, 1, -1), x -> x.spread(0, 1, 1));
    }

    private static void ways() {
        Edge.term("WAY from one to another: PLACES, each joined by a ROAD to the next, none twice");
        Edge.asks(Edge::all, 4, x -> x.shortest(3, 0, -1));
        Edge.asks(Edge::all, 1, x -> x.shortest(3, 3, -1));
        Edge.asks(() -> Edge.roads(Edge.places(3), 0, 1, 1), -1, x -> x.away(0, 2));
        Edge.term("LENGTH: all MILES");
        Edge.asks(Edge::all, 50, x -> x.away(1, 3));
        Edge.term("AWAY: the least LENGTH of a WAY (0: the same)");
        Edge.asks(() -> Edge.roads(Edge.places(3), 0, 1, 30, 0, 2, 10, 1, 2, 19), 29, x -> x.away(0, 1));
        Edge.asks(() -> Edge.roads(Edge.places(3), 0, 1, 30, 0, 2, 10, 1, 2, 20), 30, x -> x.away(0, 1));
        Edge.asks(() -> Edge.roads(Edge.places(3), 0, 1, 30, 0, 2, 10, 1, 2, 21), 30, x -> x.away(0, 1));
        Edge.asks(() -> Edge.places(3), 0, x -> x.away(1, 1));
        Edge.term("NONE: there is none");
        Edge.asks(() -> Edge.places(3), -1, x -> x.away(0, 1));
        Edge.asks(() -> Edge.roads(Edge.places(3), 0, 1, 5, 0, 1, 0), -1, x -> x.away(0, 1));
        Edge.term("SHORTEST: of all WAYS of that LENGTH the first (by rows of numbers)");
        Edge.Mill three = () -> Edge.roads(Edge.places(4), 0, 3, 30, 0, 2, 10, 2, 3, 20, 0, 1, 5, 1, 2, 5, 1, 3, 25);
        int[] first = {0, 1, 2, 3};
        for (int i = 0; i < 4; i++) {
            int of = i;
            Edge.asks(three, first[i], x -> x.shortest(0, 3, of));
        }
        Edge.asks(three, 4, x -> x.shortest(0, 3, -1));
        Edge.asks(three, 2, x -> x.shortest(3, 0, -1));
        Edge.asks(three, 0, x -> x.shortest(3, 0, 1));
    }
}
