/** Promises 26 to 32, a sentence at a time. */
final class EdgesOfTold {
    private static final int LEAST = Integer.MIN_VALUE;
    private static final int MOST = Integer.MAX_VALUE;

    private EdgesOfTold() {
    }

    static void run() {
        promise26();
        promise26Refused();
        promise26Wrong();
        promise26Leaves();
        promise27();
        promise28();
        promise29();
        promise29Refused();
        promise30();
        promise31();
        promise32();
        promise32Refused();
    }

    /** all(), with these ints in SHELF 2. */
    private static Edge.Mill told(long... elements) {
        return () -> Edge.row(Edge.all(), 2, 2, elements);
    }

    private static long[] repeated(int times, long... elements) {
        long[] many = new long[times * elements.length];
        for (int i = 0; i < many.length; i++) {
            many[i] = elements[i % elements.length];
        }
        return many;
    }

    /** With these longs in SHELF 2, as a ROW of 44 ints takes too many calls to be built twice over. */
    private static Edge.Mill eleven(long... one) {
        return () -> Edge.row(Edge.roads(Edge.places(2), 0, 1, 10), 2, 3, repeated(11, one));
    }

    private static void promise26() {
        Edge.promise(26, "JOURNEY by the first n pinches (0 to 10) in the ROW in SHELF s: LENGTH");
        Edge.asks(told(0, 1, 5, 0, 1, 2, 7, 0), 60, x -> x.journey(0, 3, 2, 0));
        Edge.asks(told(0, 1, 5, 0, 1, 2, 7, 0), 65, x -> x.journey(0, 3, 2, 1));
        Edge.asks(told(0, 1, 5, 0, 1, 2, 7, 0), 72, x -> x.journey(0, 3, 2, 2));
        Edge.asks(told(0, 1, 5, 0, 1, 2, 7, 0), 0, x -> x.journey(3, 3, 2, 2));
        Edge.asks(() -> Edge.row(Edge.all(), 2, 0), 60, x -> x.journey(3, 0, 2, 0));
        Edge.asks(eleven(0, 1, 1, 0), 20, x -> x.journey(1, 0, 2, 10));
        Edge.asks(eleven(0, 1, 1, 0), 10, x -> x.journey(1, 0, 2, 0));
        Edge.promise(26, "-1");
        Edge.asks(() -> Edge.row(Edge.places(8), 2, 2), -1, x -> x.journey(0, 7, 2, 0));
        Edge.asks(() -> Edge.row(Edge.roads(Edge.places(4), 0, 1, 5, 2, 3, 5), 2, 2, 0, 1, -4, 0), -1,
                x -> x.journey(0, 3, 2, 1));
        Edge.asks(() -> Edge.row(Edge.places(1), 2, 2), 0, x -> x.journey(0, 0, 2, 0));
        Edge.promise(26, "-2");
        Edge.asks(() -> turnedBack(20), 9999, x -> x.journey(0, 7, 2, 10));
        Edge.asks(() -> turnedBack(21), -2, x -> x.journey(0, 7, 2, 10));
        Edge.asks(() -> turnedBack(999), -2, x -> x.journey(0, 7, 2, 10));
    }

    /** From 5 on he is turned back five times between 5 and 6, as 7 is near now the one, now the other. */
    private static MillOfDistances turnedBack(int first) {
        MillOfDistances x = Edge.roads(Edge.places(8), 0, 1, first, 1, 2, 999, 2, 3, 999, 3, 4, 999, 4, 5, 999, 5, 6, 997,
                6, 7, 1, 5, 7, 999);
        x.row(2, 2, 40);
        for (int k = 0; k < 5; k++) {
            int near = k % 2 == 0 ? 6 : 5;
            int behind = first + 4 * 999 + 997 * k + 5;
            long[] both = {near, 7, 998, behind, 11 - near, 7, -998, behind};
            for (int i = 0; i < 8; i++) {
                x.set(2, 8 * k + i, both[i]);
            }
        }
        return x;
    }

    private static void promise26Refused() {
        Edge.promise(26, "-11 also PLACES");
        Edge.part("-11");
        Edge.refuses(Edge::all, -11, x -> x.journey(0, 1, -1, 0), x -> x.journey(0, 1, 8, 0), x -> x.journey(0, 1, MOST, -1));
        Edge.part("PLACES");
        Edge.refuses(Edge::all, -11, x -> x.journey(0, 4, 2, 0), x -> x.journey(4, 0, 2, 0), x -> x.journey(-1, 0, 2, 0),
                x -> x.journey(0, -1, 2, 0), x -> x.journey(4, 4, 3, -1), x -> x.journey(LEAST, MOST, 4, 11));
        Edge.promise(26, "-12");
        Edge.refuses(Edge::all, -12, x -> x.journey(0, 1, 3, 0), x -> x.journey(0, 1, 3, -1), x -> x.journey(0, 1, 3, 11));
        Edge.promise(26, "-13");
        Edge.refuses(Edge::all, -13, x -> x.journey(0, 1, 4, 0), x -> x.journey(0, 1, 7, -1), x -> x.journey(1, 1, 4, 11));
        Edge.promise(26, "-14 n");
        Edge.refuses(Edge::all, -14, x -> x.journey(0, 1, 5, -1), x -> x.journey(0, 1, 2, LEAST),
                x -> x.journey(0, 0, 5, -40));
        Edge.promise(26, "-15 fewer elements");
        Edge.refuses(Edge::all, -15, x -> x.journey(0, 1, 2, 1), x -> x.journey(0, 1, 5, 41), x -> x.journey(0, 1, 5, MOST),
                x -> x.journey(0, 1, 5, 1 << 30), x -> x.journey(0, 1, 2, 11));
        Edge.refuses(told(0, 1, 5, 0, 1, 2, 5), -15, x -> x.journey(0, 3, 2, 2));
        Edge.asks(told(0, 1, 5, 0, 1, 2, 5, 0), 70, x -> x.journey(0, 3, 2, 2));
    }

    private static void promise26Wrong() {
        Edge.promise(26, "-16 n above 10, PLACES that aren't there or the same, no ROAD to pinch, n 0, MILES of his walk"
                + " that fall, or below 0 (counted as -1 to -6)");
        Edge.part("n above 10");
        Edge.refuses(eleven(0, 1, 1, 0), -16, x -> x.journey(0, 1, 2, 11));
        Edge.refuses(Edge::all, -16, x -> x.journey(0, 1, 5, 40));
        Edge.part("PLACES that aren't there");
        wrong(4, 0, 1, 0);
        wrong(0, 4, 1, 0);
        wrong(-1, 0, 1, 0);
        wrong(0, -1, 1, 0);
        wrong(MOST, LEAST, 1, 0);
        Edge.part("or the same");
        wrong(0, 0, 1, 0);
        wrong(3, 3, -1, 0);
        Edge.part("no ROAD to pinch");
        wrong(0, 3, 1, 0);
        wrong(2, 0, -1, 0);
        Edge.part("n 0");
        wrong(0, 1, 0, 0);
        Edge.part("MILES of his walk that fall");
        wrong(0, 1, 1, 5, 0, 1, 1, 4);
        wrong(0, 1, 1, MOST, 0, 1, 1, 0);
        Edge.asks(told(0, 1, 1, 5, 0, 1, 1, 5), 60, x -> x.journey(0, 3, 2, 2));
        Edge.asks(told(0, 1, 1, 5, 0, 1, 1, 4), 60, x -> x.journey(0, 3, 2, 1));
        Edge.part("or below 0");
        wrong(0, 1, 1, -1);
        wrong(0, 1, 1, LEAST);
        Edge.asks(told(0, 1, 1, 0), 61, x -> x.journey(0, 3, 2, 1));
    }

    /** Also behind one that stands, and for one who is there already. */
    private static void wrong(long... pinches) {
        int n = pinches.length / 4;
        Edge.refuses(told(pinches), -16, x -> x.journey(0, 3, 2, n), x -> x.journey(0, 0, 2, n));
        long[] second = new long[pinches.length + 4];
        second[1] = 1;
        second[2] = 3;
        System.arraycopy(pinches, 0, second, 4, pinches.length);
        Edge.refuses(told(second), -16, x -> x.journey(0, 3, 2, n + 1));
        Edge.asks(told(second), 63, x -> x.journey(0, 3, 2, 1));
    }

    private static void promise26Leaves() {
        Edge.promise(26, "(A pinch leaves 1 to 999 MILES.)");
        Edge.asks(told(0, 1, -9, 0), 1, x -> x.journey(0, 1, 2, 1));
        Edge.asks(told(0, 1, -10, 0), 1, x -> x.journey(0, 1, 2, 1));
        Edge.asks(told(0, 1, LEAST, 0), 1, x -> x.journey(0, 1, 2, 1));
        Edge.asks(told(0, 1, 989, 0), 999, x -> x.journey(0, 1, 2, 1));
        Edge.asks(told(0, 1, 990, 0), 999, x -> x.journey(0, 1, 2, 1));
        Edge.asks(told(0, 1, MOST, 0), 999, x -> x.journey(0, 1, 2, 1));
        Edge.asks(told(0, 1, LEAST, 0, 0, 1, 3, 0), 4, x -> x.journey(0, 1, 2, 2));
        Edge.asks(told(0, 1, MOST, 0, 0, 1, -3, 0), 996, x -> x.journey(0, 1, 2, 2));
    }

    private static void promise27() {
        Edge.promise(27, "A told TABLE in SHELF s: WRONG as the number of the pair");
        Edge.asks(told(0, 5, 5, 5, 5, 5), 0, x -> x.judge(2));
        Edge.asks(told(5, 5, 5, 5, 5, 0), 5, x -> x.judge(2));
        Edge.asks(told(5, 5, 5, 5, 5, 11), 5, x -> x.judge(2));
        Edge.asks(told(5, 5, 5, 5, 11, 5), 4, x -> x.judge(2));
        Edge.asks(() -> Edge.row(Edge.places(8), 2, 2, eightPairs(27, 0)), 27, x -> x.judge(2));
        Edge.promise(27, "NONE");
        Edge.asks(told(5, 5, 5, 5, 5, 10), -1, x -> x.judge(2));
        Edge.asks(told(1, 1, 1, 1, 1, 1), -1, x -> x.judge(2));
        Edge.asks(told(1, 1, 1, 1, 1, 1, 0), -1, x -> x.judge(2));
        Edge.asks(() -> Edge.row(Edge.empty(), 2, 2), -1, x -> x.judge(2));
        Edge.asks(() -> Edge.row(Edge.places(1), 2, 2), -1, x -> x.judge(2));
        Edge.asks(() -> Edge.row(Edge.places(2), 2, 2, MOST), -1, x -> x.judge(2));
        Edge.asks(() -> Edge.row(Edge.places(8), 2, 2, eightPairs(27, 9)), -1, x -> x.judge(2));
        Edge.promise(27, "-11");
        Edge.refuses(Edge::all, -11, x -> x.judge(-1), x -> x.judge(8), x -> x.judge(LEAST), x -> x.judge(MOST));
        Edge.promise(27, "-12");
        Edge.refuses(Edge::all, -12, x -> x.judge(3));
        Edge.promise(27, "-13");
        Edge.refuses(Edge::all, -13, x -> x.judge(4), x -> x.judge(7));
        Edge.promise(27, "-15 fewer elements than pairs of PLACES (counted as -1, -2, -3, -5)");
        Edge.refuses(Edge::all, -15, x -> x.judge(0), x -> x.judge(1));
        Edge.refuses(told(0, 0, 0, 0, 0), -15, x -> x.judge(2));
        Edge.refuses(() -> Edge.row(Edge.places(8), 2, 2, repeated(27, 9)), -15, x -> x.judge(2));
        Edge.refuses(() -> Edge.row(Edge.places(2), 2, 2), -15, x -> x.judge(2));
    }

    /** 28 nines but one. */
    private static long[] eightPairs(int other, long is) {
        long[] pairs = repeated(28, 9);
        pairs[other] = is;
        return pairs;
    }

    private static void promise28() {
        Edge.promise(28, "MEND of it");
        Edge.asks(told(5, 5, 5, 5, 5, 10), 0, x -> x.mend(2));
        Edge.asks(told(5, 5, 5, 5, 5, 11), 1, x -> x.mend(2));
        Edge.asks(told(1, 1, 1, 9999, 9999, 9999), 3 * 9997, x -> x.mend(2));
        Edge.asks(() -> Edge.row(Edge.empty(), 2, 2), 0, x -> x.mend(2));
        Edge.asks(() -> Edge.row(Edge.places(8), 2, 2, eightPairs(0, 9999)), 9999 - 18, x -> x.mend(2));
        Edge.promise(28, "-1");
        Edge.refuses(Edge::all, -1, x -> x.mend(-1), x -> x.mend(8), x -> x.mend(LEAST), x -> x.mend(MOST));
        Edge.promise(28, "-2");
        Edge.refuses(Edge::all, -2, x -> x.mend(3));
        Edge.promise(28, "-3");
        Edge.refuses(Edge::all, -3, x -> x.mend(4), x -> x.mend(7));
        Edge.promise(28, "-5 likewise");
        Edge.refuses(Edge::all, -5, x -> x.mend(0), x -> x.mend(1));
        Edge.refuses(told(0, 0, 0, 0, 0), -5, x -> x.mend(2));
        Edge.promise(28, "-6 one is below 1 or above 9999");
        Edge.part("below 1");
        Edge.refuses(told(0, 5, 5, 5, 5, 5), -6, x -> x.mend(2));
        Edge.refuses(told(5, 5, 5, 5, 5, 0), -6, x -> x.mend(2));
        Edge.refuses(told(5, 5, -1, 5, 5, 5), -6, x -> x.mend(2));
        Edge.refuses(told(5, 5, LEAST, 5, 5, 5), -6, x -> x.mend(2));
        Edge.refuses(Edge::all, -6, x -> x.mend(5));
        Edge.part("above 9999");
        Edge.refuses(told(10_000, 5, 5, 5, 5, 5), -6, x -> x.mend(2));
        Edge.refuses(told(5, 5, 5, 5, 5, MOST), -6, x -> x.mend(2));
        Edge.asks(told(9999, 9999, 9999, 9999, 9999, 9999), 0, x -> x.mend(2));
        Edge.asks(told(5, 5, 5, 5, 5, 5, 0, 10_000), 0, x -> x.mend(2));
    }

    private static void promise29() {
        Edge.promise(29, "Told PINCHES, the first n (0 to 20) in the ROW in SHELF s: WRONG");
        Edge.asks(told(0, 1, 0), 0, x -> x.pinches(2, 1));
        Edge.asks(told(0, 1, -9, 0, 1, -1), 1, x -> x.pinches(2, 2));
        Edge.asks(Edge::all, 0, x -> x.pinches(5, 20));
        Edge.asks(twentyOne(20), 19, x -> x.pinches(2, 20));
        Edge.promise(29, "NONE");
        Edge.asks(told(0, 1, -9), -1, x -> x.pinches(2, 1));
        Edge.asks(Edge::all, -1, x -> x.pinches(2, 0));
        Edge.asks(Edge::all, -1, x -> x.pinches(5, 0));
        Edge.asks(() -> Edge.row(Edge.empty(), 2, 2), -1, x -> x.pinches(2, 0));
        Edge.asks(told(0, 1, -9, 0, 1, -1), -1, x -> x.pinches(2, 1));
        Edge.asks(twentyOne(21), -1, x -> x.pinches(2, 20));
    }

    /** 21 pinches of 1 MILE on a ROAD that may get nearer so many times less one. */
    private static Edge.Mill twentyOne(int miles) {
        return () -> {
            MillOfDistances x = Edge.row(Edge.roads(Edge.places(2), 0, 1, miles), 2, 2, repeated(21, 0, 1, -1));
            x.ask(0, 100);
            return x;
        };
    }

    private static void promise29Refused() {
        Edge.promise(29, "-11");
        Edge.refuses(Edge::all, -11, x -> x.pinches(-1, 0), x -> x.pinches(8, 0), x -> x.pinches(MOST, -1));
        Edge.promise(29, "-12");
        Edge.refuses(Edge::all, -12, x -> x.pinches(3, 0), x -> x.pinches(3, -1), x -> x.pinches(3, 21));
        Edge.promise(29, "-13");
        Edge.refuses(Edge::all, -13, x -> x.pinches(4, 0), x -> x.pinches(7, -1), x -> x.pinches(4, 21));
        Edge.promise(29, "-14 n");
        Edge.refuses(Edge::all, -14, x -> x.pinches(2, -1), x -> x.pinches(5, LEAST), x -> x.pinches(5, -53));
        Edge.promise(29, "-15 fewer elements");
        Edge.refuses(Edge::all, -15, x -> x.pinches(2, 2), x -> x.pinches(1, 1), x -> x.pinches(5, 54),
                x -> x.pinches(5, MOST), x -> x.pinches(2, 21));
        Edge.promise(29, "-16 n above 20 (counted as -1 to -6)");
        Edge.refuses(Edge::all, -16, x -> x.pinches(5, 21), x -> x.pinches(5, 53));
        Edge.refuses(twentyOne(30), -16, x -> x.pinches(2, 21));
    }

    private static void promise30() {
        Edge.promise(30, "FLOUR left behind them");
        Edge.asks(Edge::all, 500, x -> x.left(5, 0));
        Edge.asks(told(0, 1, -9, 0, 1, 491), 491, x -> x.left(2, 1));
        Edge.asks(told(0, 1, -9, 0, 1, 491), 0, x -> x.left(2, 2));
        Edge.asks(twentyOne(30), 80, x -> x.left(2, 20));
        Edge.promise(30, "-1");
        Edge.refuses(Edge::all, -1, x -> x.left(-1, 0), x -> x.left(8, 0), x -> x.left(MOST, -1));
        Edge.promise(30, "-2");
        Edge.refuses(Edge::all, -2, x -> x.left(3, 0), x -> x.left(3, -1), x -> x.left(3, 21));
        Edge.promise(30, "-3");
        Edge.refuses(Edge::all, -3, x -> x.left(4, 0), x -> x.left(7, -1), x -> x.left(4, 21));
        Edge.promise(30, "-4");
        Edge.refuses(Edge::all, -4, x -> x.left(2, -1), x -> x.left(5, LEAST));
        Edge.promise(30, "-5");
        Edge.refuses(Edge::all, -5, x -> x.left(2, 2), x -> x.left(1, 1), x -> x.left(5, 54), x -> x.left(5, MOST));
        Edge.promise(30, "-6 also if one is WRONG");
        Edge.part("-6");
        Edge.refuses(twentyOne(30), -6, x -> x.left(2, 21));
        Edge.refuses(Edge::all, -6, x -> x.left(5, 21), x -> x.left(5, 53));
        Edge.part("if one is WRONG");
        Edge.refuses(told(0, 1, -10), -6, x -> x.left(2, 1));
        Edge.refuses(told(0, 1, -9, 0, 1, 492), -6, x -> x.left(2, 2));
        Edge.refuses(twentyOne(20), -6, x -> x.left(2, 20));
    }

    private static void promise31() {
        Edge.promise(31, "They come to pass in truth: FLOUR left");
        MillOfDistances x = told(0, 1, -9, 0, 1, 491).made();
        Edge.due("none", x.done(2, 0), 500);
        Edge.same("none changed ", x, told(0, 1, -9, 0, 1, 491).made());
        MillOfDistances y = told(0, 1, -9, 0, 1, 491).made();
        Edge.due("two", y.done(2, 2), 0);
        Edge.due("no FLOUR is left", y.status(3), 0);
        Edge.due("MILES", y.miles(1, 0), 492);
        Edge.due("of the others", y.miles(1, 2), 20);
        Edge.gives(twentyOne(30), 80, z -> z.done(2, 20));
        Edge.gives(twentyOne(30), 10, z -> z.done(2, 20) - 80 + z.miles(0, 1));
        Edge.promise(31, "-1");
        Edge.refuses(Edge::all, -1, z -> z.done(-1, 0), z -> z.done(8, 0), z -> z.done(MOST, -1));
        Edge.promise(31, "-2");
        Edge.refuses(Edge::all, -2, z -> z.done(3, 0), z -> z.done(3, -1), z -> z.done(3, 21));
        Edge.promise(31, "-3");
        Edge.refuses(Edge::all, -3, z -> z.done(4, 0), z -> z.done(7, -1), z -> z.done(4, 21));
        Edge.promise(31, "-4");
        Edge.refuses(Edge::all, -4, z -> z.done(2, -1), z -> z.done(5, LEAST));
        Edge.promise(31, "-5");
        Edge.refuses(Edge::all, -5, z -> z.done(2, 2), z -> z.done(1, 1), z -> z.done(5, 54), z -> z.done(5, MOST));
        Edge.promise(31, "-6 likewise");
        Edge.refuses(twentyOne(30), -6, z -> z.done(2, 21));
        Edge.refuses(told(0, 1, -9, 0, 1, 492), -6, z -> z.done(2, 2));
        Edge.refuses(told(0, 1, 1, 1, 2, 1, 2, 3, 1, 3, 0, 1), -6, z -> z.done(2, 4));
        Edge.refuses(twentyOne(20), -6, z -> z.done(2, 20));
    }

    private static void promise32() {
        Edge.promise(32, "THEFT by the ROW in SHELF s: how many (what 0), the first (1)");
        Edge.asks(told(9, 29, 59, 20, 50, 30), 1, x -> x.theft(2, 0));
        Edge.asks(told(9, 29, 59, 20, 50, 30), 101, x -> x.theft(2, 1));
        Edge.asks(told(10, 30, 31, 20, 21, 1), 20_329, x -> x.theft(2, 1));
        Edge.asks(told(10, 30, 60, 20, 50, 30), 0, x -> x.theft(2, 0));
        Edge.asks(told(0, 20, 50, 20, 50, 30), 0, x -> x.theft(2, 0));
        Edge.asks(() -> Edge.row(Edge.roads(Edge.places(2), 0, 1, 100), 2, 2, 1), 199, x -> x.theft(2, 1));
        Edge.asks(() -> Edge.row(Edge.roads(Edge.places(2), 0, 1, 101), 2, 2, 1), 0, x -> x.theft(2, 0));
        Edge.asks(() -> Edge.row(Edge.roads(Edge.places(2), 0, 1, 999), 2, 2, 900), 199, x -> x.theft(2, 1));
        Edge.asks(() -> Edge.row(Edge.roads(Edge.places(2), 0, 1, 999), 2, 2, 899), 0, x -> x.theft(2, 0));
        Edge.asks(() -> Edge.row(Edge.roads(Edge.places(2), 0, 1, 1), 2, 2, 1), 0, x -> x.theft(2, 0));
        Edge.asks(() -> Edge.row(Edge.empty(), 2, 2), 0, x -> x.theft(2, 0));
        Edge.asks(() -> Edge.row(Edge.places(2), 2, 2, -1), 0, x -> x.theft(2, 0));
    }

    private static void promise32Refused() {
        Edge.promise(32, "-1");
        Edge.refuses(Edge::all, -1, x -> x.theft(-1, 0), x -> x.theft(8, 0), x -> x.theft(LEAST, 2), x -> x.theft(MOST, -1));
        Edge.promise(32, "-2");
        Edge.refuses(Edge::all, -2, x -> x.theft(3, 0), x -> x.theft(3, 2));
        Edge.promise(32, "-3");
        Edge.refuses(Edge::all, -3, x -> x.theft(4, 0), x -> x.theft(7, 2));
        Edge.promise(32, "-5 fewer elements, another what, none (what 1)");
        Edge.part("fewer elements");
        Edge.refuses(Edge::all, -5, x -> x.theft(0, 0), x -> x.theft(1, 1));
        Edge.refuses(told(9, 29, 59, 20, 50), -5, x -> x.theft(2, 0));
        Edge.part("another what");
        Edge.refuses(told(9, 29, 59, 20, 50, 30), -5, x -> x.theft(2, 2), x -> x.theft(2, -1), x -> x.theft(2, LEAST),
                x -> x.theft(2, MOST));
        Edge.part("none (what 1)");
        Edge.refuses(told(10, 30, 60, 20, 50, 30), -5, x -> x.theft(2, 1));
        Edge.refuses(() -> Edge.row(Edge.empty(), 2, 2), -5, x -> x.theft(2, 1));
        Edge.refuses(Edge::all, -5, x -> x.theft(6, 1));
    }
}
