/** The REFUSALS, a sentence at a time, and what is asked without changing anything. */
final class TermsRefusals {
    private TermsRefusals() {
    }

    static void run() {
        answered();
        order();
        orderOfWays();
        orderOfTold();
        nobody();
        other();
        nothingBelowBeyond();
        wrongAndRoom();
        nothingIsChanged();
        changesByRefusalsAlone();
    }

    private static void answered() {
        Edge.term("the call answers the number");
        Edge.refuses(Edge::all, -1, x -> x.row(8, 0, 0));
        Edge.refuses(Edge::all, -2, x -> x.map(3));
        Edge.refuses(Edge::all, -3, x -> x.map(4));
        Edge.refuses(Edge::all, -4, x -> x.row(0, 0, -1));
        Edge.refuses(Edge::all, -5, x -> x.set(0, 3, 1));
        Edge.refuses(Edge::all, -6, x -> x.ask(2, 0));
        Edge.refuses(Edge::all, -7, x -> x.row(0, 0, 161));
    }

    private static void order() {
        Edge.term("the first that fits, in this order");
        Edge.refuses(Edge::all, -1, x -> x.row(8, 4, -1), x -> x.row(8, 4, 161), x -> x.row(8, 0, 161));
        Edge.refuses(Edge::all, -4, x -> x.row(0, 4, -1));
        Edge.refuses(Edge::all, -6, x -> x.row(0, 4, 161));
        Edge.refuses(Edge::all, -1, x -> x.set(8, -1, 1));
        Edge.refuses(Edge::all, -2, x -> x.set(3, -1, 1));
        Edge.refuses(Edge::all, -3, x -> x.set(4, -1, 1));
        Edge.refuses(Edge::all, -1, x -> x.copy(8, 3, -1, -1, -1), x -> x.copy(4, 8, -1, -1, -1));
        Edge.refuses(Edge::all, -2, x -> x.copy(3, 4, -1, -1, -1), x -> x.copy(4, 3, -1, -1, -1),
                x -> x.copy(0, 2, -1, -1, -1), x -> x.copy(0, 2, -1, -1, 0));
        Edge.refuses(Edge::all, -3, x -> x.copy(4, 0, -1, -1, -1), x -> x.copy(0, 4, -1, -1, 0));
        Edge.refuses(Edge::all, -4, x -> x.copy(0, 1, -1, -1, -1));
        Edge.refuses(Edge::all, -1, x -> x.says(8, 7), x -> x.says(0, 7), x -> x.says(4, 7), x -> x.says(3, 7));
        Edge.refuses(() -> Edge.places(8), -1, x -> x.place(7, 10), x -> x.place(7, 0));
        Edge.refuses(() -> Edge.places(8), -6, x -> x.place(0, 10));
        Edge.refuses(Edge::all, -1, x -> x.road(4, 4, 1000), x -> x.cost(4, 4, 0), x -> x.yields(4, 4), x -> x.mill(4, 4),
                x -> x.spread(4, 4, 0));
        Edge.refuses(Edge::all, -11, x -> x.miles(4, 4));
        Edge.refuses(Edge::empty, -5, x -> x.gale(0));
    }

    private static void orderOfWays() {
        Edge.term("the first that fits, in this order");
        Edge.refuses(Edge::all, -1, x -> x.shortest(0, 4, 99), x -> x.within(4, -1), x -> x.harm(4, 4, 2));
        Edge.refuses(Edge::all, -5, x -> x.harm(0, 0, 2), x -> x.harm(0, 3, -1));
        Edge.refuses(Edge::all, -11, x -> x.cheapest(4, 4, 0, 3), x -> x.cheapest(0, 4, 0, 0));
        Edge.refuses(Edge::all, -15, x -> x.cheapest(0, 0, 0, 3), x -> x.cheapest(0, 1, 0, -1));
    }

    private static void orderOfTold() {
        Edge.term("the first that fits, in this order");
        Edge.refuses(Edge::all, -11, x -> x.journey(4, 0, 3, -1), x -> x.journey(0, 4, 4, 11), x -> x.journey(0, 1, 8, -1));
        Edge.refuses(Edge::all, -12, x -> x.journey(0, 1, 3, -1), x -> x.journey(0, 1, 3, 11));
        Edge.refuses(Edge::all, -13, x -> x.journey(0, 1, 4, -1), x -> x.journey(0, 1, 4, 11));
        Edge.refuses(Edge::all, -14, x -> x.journey(0, 1, 2, -1));
        Edge.refuses(Edge::all, -15, x -> x.journey(0, 1, 2, 11), x -> x.journey(0, 1, 5, 41), x -> x.journey(0, 1, 6, 2));
        Edge.refuses(Edge::all, -12, x -> x.pinches(3, -1), x -> x.pinches(3, 21));
        Edge.refuses(Edge::all, -13, x -> x.pinches(4, -1), x -> x.pinches(4, 21));
        Edge.refuses(Edge::all, -15, x -> x.pinches(2, 21), x -> x.pinches(6, 3));
        Edge.refuses(Edge::all, -2, x -> x.left(3, -1), x -> x.done(3, 21), x -> x.theft(3, 2));
        Edge.refuses(Edge::all, -3, x -> x.left(4, -1), x -> x.done(4, 21), x -> x.theft(4, 2));
        Edge.refuses(Edge::all, -4, x -> x.left(2, -1), x -> x.done(0, -1));
        Edge.refuses(Edge::all, -5, x -> x.left(2, 21), x -> x.done(6, 3), x -> x.mend(2), x -> x.theft(2, 2));
        Edge.refuses(Edge::all, -1, x -> x.theft(8, 2), x -> x.left(8, -1), x -> x.done(8, 21));
    }

    private static void nobody() {
        Edge.term("-1 NOBODY: no such SHELF, PLACE, KIND");
        for (int s : new int[] {-1, 8, Integer.MIN_VALUE, Integer.MAX_VALUE}) {
            Edge.refuses(Edge::all, -1, x -> x.row(s, 0, 1), x -> x.set(s, 0, 1), x -> x.copy(s, 0, 0, 0, 1),
                    x -> x.copy(0, s, 0, 0, 1), x -> x.show(s, 0), x -> x.says(s, 0), x -> x.map(s), x -> x.mend(s),
                    x -> x.left(s, 0), x -> x.done(s, 0), x -> x.theft(s, 0));
            Edge.refuses(Edge::all, -11, x -> x.journey(0, 1, s, 0), x -> x.judge(s), x -> x.pinches(s, 0));
        }
        for (int p : new int[] {-1, 4, 8, Integer.MIN_VALUE, Integer.MAX_VALUE}) {
            if (p != -1) {
                Edge.refuses(Edge::all, -1, x -> x.show(0, p));
            }
            Edge.refuses(Edge::all, -1, x -> x.road(0, p, 1), x -> x.road(p, 0, 1), x -> x.cost(p, 0, 1),
                    x -> x.cost(0, p, 1), x -> x.yields(p, 0), x -> x.yields(0, p), x -> x.shortest(p, 0, 0),
                    x -> x.shortest(0, p, 0), x -> x.within(p, 0), x -> x.harm(p, 0, 0), x -> x.harm(0, p, 0),
                    x -> x.mill(p, 0), x -> x.mill(0, p), x -> x.spread(p, 0, 1), x -> x.spread(0, p, 1));
            Edge.refuses(Edge::all, -11, x -> x.miles(p, 0), x -> x.miles(0, p), x -> x.away(p, 0), x -> x.away(0, p),
                    x -> x.cheapest(p, 0, 5, 0), x -> x.cheapest(0, p, 5, 0), x -> x.meet(p, 0), x -> x.meet(0, p),
                    x -> x.journey(p, 0, 2, 0), x -> x.journey(0, p, 2, 0));
        }
        for (int kind : new int[] {-1, 7, Integer.MIN_VALUE, Integer.MAX_VALUE}) {
            Edge.refuses(Edge::all, -1, x -> x.place(kind, 0), x -> x.says(3, kind));
        }
    }

    private static void other() {
        Edge.term("-2 OTHER: a SHELF that holds a PLACE where a ROW is wanted, or the other way about, ROWS of two SORTS, a"
                + " PLACE that isn't of the KIND wanted, or one under it");
        Edge.refuses(Edge::all, -2, x -> x.set(3, 0, 1), x -> x.copy(3, 0, 0, 0, 1), x -> x.copy(0, 3, 0, 0, 1),
                x -> x.map(3), x -> x.mend(3), x -> x.left(3, 0), x -> x.done(3, 0), x -> x.theft(3, 0));
        Edge.refuses(Edge::all, -12, x -> x.journey(0, 1, 3, 0), x -> x.judge(3), x -> x.pinches(3, 0));
        Edge.refuses(Edge::all, -2, x -> x.says(0, 0), x -> x.says(2, 0), x -> x.says(5, 6));
        Edge.refuses(Edge::all, -2, x -> x.copy(0, 2, 0, 0, 1), x -> x.copy(5, 6, 0, 0, 1), x -> x.copy(6, 0, 0, 0, 0));
        Edge.refuses(Edge::all, -2, x -> x.says(3, 1), x -> x.says(3, 4));
        MillOfDistances x = Edge.kinds();
        x.show(0, 5);
        Edge.due("one under it", x.says(0, 2), 9);
        Edge.due("not of one above it", x.says(0, 0), 0);
        x.show(0, 2);
        Edge.due("one above it isn't", x.says(0, 5), -2);
    }

    private static void nothingBelowBeyond() {
        Edge.term("-3 NOTHING: a SHELF that holds NOTHING");
        Edge.refuses(Edge::all, -3, x -> x.set(4, 0, 1), x -> x.copy(4, 0, 0, 0, 1), x -> x.copy(0, 4, 0, 0, 1),
                x -> x.says(4, 0), x -> x.map(4), x -> x.mend(4), x -> x.left(4, 0), x -> x.done(4, 0),
                x -> x.theft(4, 0));
        Edge.refuses(Edge::all, -13, x -> x.journey(0, 1, 4, 0), x -> x.judge(4), x -> x.pinches(4, 0));
        Edge.term("-4 BELOW: a size below 0");
        for (int n : new int[] {-1, -160, Integer.MIN_VALUE}) {
            Edge.refuses(Edge::all, -4, x -> x.row(0, 0, n), x -> x.copy(0, 1, 0, 0, n), x -> x.left(2, n),
                    x -> x.done(2, n));
            Edge.refuses(Edge::all, -14, x -> x.journey(0, 1, 2, n), x -> x.pinches(2, n));
        }
        Edge.term("-5 BEYOND: an element that isn't there");
        Edge.refuses(Edge::all, -5, x -> x.set(0, 3, 1), x -> x.copy(0, 1, 2, 0, 2), x -> x.left(1, 1), x -> x.mend(1),
                x -> x.done(1, 1), x -> x.theft(1, 0));
        Edge.refuses(Edge::all, -15, x -> x.journey(0, 1, 1, 1), x -> x.judge(1), x -> x.pinches(1, 1));
        Edge.term("nothing such to be told of");
        Edge.refuses(Edge::all, -5, x -> x.placeOf(4, 0), x -> x.placeOf(0, 4), x -> x.shortest(0, 3, 4), x -> x.whole(4),
                x -> x.harm(0, 1, 2), x -> x.theft(6, 2), x -> x.theft(6, 1));
        Edge.refuses(Edge::all, -15, x -> x.cheapest(0, 1, 5, 3));
        Edge.refuses(Edge::empty, -5, x -> x.whole(1), x -> x.leastHarm(), x -> x.gale(1));
    }

    private static void wrongAndRoom() {
        Edge.term("-6 WRONG: a number that may not be, a FAULT, what can't be as things stand");
        Edge.refuses(Edge::all, -6, x -> x.row(0, 4, 1), x -> x.place(0, 10), x -> x.road(0, 1, 1000), x -> x.ask(0, -1),
                x -> x.cost(0, 1, 999), x -> x.within(0, 10_000), x -> x.gale(61));
        Edge.refuses(Edge::all, -16, x -> x.cheapest(0, 1, 0, 0), x -> x.journey(0, 1, 5, 11), x -> x.pinches(5, 21));
        Edge.refuses(Edge::all, -6, x -> x.map(2));
        Edge.refuses(Edge::all, -6, x -> x.road(1, 1, 5), x -> x.yields(0, 3), x -> x.harm(0, 3, 0), x -> x.mend(5),
                x -> x.mill(0, 3), x -> x.spread(0, 1, -10), x -> x.left(5, 1), x -> x.done(5, 1));
        Edge.refuses(Edge::empty, -6, x -> x.restore());
        Edge.term("-7 ROOM: more than may be");
        Edge.refuses(Edge::all, -7, x -> x.row(0, 0, 161), x -> x.row(4, 3, Integer.MAX_VALUE));
        Edge.refuses(() -> Edge.places(8), -7, x -> x.place(0, 0));
    }

    /** all(), with a pinch that stands and one that MAY not be in SHELF 2. */
    private static MillOfDistances asked() {
        return Edge.row(Edge.all(), 2, 2, 0, 1, 3, 0, 3, 2, 5, 9);
    }

    private static void nothingIsChanged() {
        Edge.term("WHAT COMES OF IT (nothing is changed)");
        Edge.asks(TermsRefusals::asked, 60, x -> x.away(0, 3));
        Edge.asks(TermsRefusals::asked, 4, x -> x.shortest(0, 3, -1));
        Edge.asks(TermsRefusals::asked, 7, x -> x.within(0, 30));
        int[] wholes = {1, 2, 60, 60};
        for (int what = 0; what < 4; what++) {
            int of = what;
            Edge.asks(TermsRefusals::asked, wholes[what], x -> x.whole(of));
        }
        Edge.asks(TermsRefusals::asked, 12, x -> x.harm(1, 2, 1));
        Edge.asks(TermsRefusals::asked, 203, x -> x.leastHarm());
        Edge.asks(TermsRefusals::asked, 5, x -> x.cheapest(0, 1, 5, 0));
        Edge.asks(TermsRefusals::asked, 0, x -> x.meet(0, 1));
        Edge.asks(TermsRefusals::asked, 63, x -> x.journey(0, 3, 2, 1));
        Edge.asks(TermsRefusals::asked, 0, x -> x.judge(2));
        Edge.asks(TermsRefusals::asked, -1, x -> x.pinches(2, 1));
        Edge.asks(TermsRefusals::asked, 497, x -> x.left(2, 1));
        Edge.asks(TermsRefusals::asked, 0, x -> x.theft(2, 0));
        Edge.asks(TermsRefusals::asked, 20, x -> x.yields(1, 2));
        Edge.asks(TermsRefusals::asked, 5, x -> x.cost(0, 3, 5));
    }

    private static void changesByRefusalsAlone() {
        Edge.term("nothing changes but how many there were");
        Edge.refuses(TermsRefusals::asked, -6, x -> x.done(2, 2), x -> x.left(2, 2), x -> x.mend(2));
        Edge.fails(Edge::all, "wind 1;flour 3;place 0 0;road 0 4 9;mill 0 1;#", 45);
    }
}
