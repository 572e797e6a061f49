/** Promises 39 to 41: THE IMAGE, and what status() tells. */
public final class ImageTest {
    public static void main(String[] args) {
        promise39();
        promise40();
        promise40Shelves();
        promise41();
        Due.end();
    }

    private static MillOfDistances some() {
        MillOfDistances x = new MillOfDistances();
        x.place(1, 4);
        x.place(5, 9);
        Due.roads(x, 0, 1, 70);
        x.ask(0, 800);
        x.ask(1, 6);
        x.seed(-77);
        return x;
    }

    private static void promise39() {
        MillOfDistances none = new MillOfDistances();
        Due.due("THE IMAGE of no PLACES", none.image(), 0);
        none.place(0, 0);
        Due.due("is one", none.restore(), 0);
        Due.due("no PLACES then", none.status(0), 0);
        MillOfDistances x = some();
        Due.due("of two", x.image(), 2);
        x.place(0, 0);
        Due.due("of three", x.image(), 3);
        x.road(0, 2, 5);
        Due.due("the latest counts", x.restore(), 3);
        Due.due("without the ROAD", x.miles(0, 2), 0);
        Due.refusals("of images", x);
    }

    private static void promise40() {
        MillOfDistances x = some();
        Due.due("there is none", x.restore(), -6);
        x.image();
        x.spread(0, 1, 5);
        x.place(6, 1);
        x.place(6, 2);
        Due.roads(x, 1, 2, 9);
        x.mill(0, 1);
        x.ask(1, 0);
        x.gale(3);
        for (int again = 0; again < 2; again++) {
            Due.due("restore", x.restore(), 2);
            Due.due("PLACES", x.status(0), 2);
            Due.due("ROADS", x.status(1), 1);
            Due.due("MILES", x.miles(0, 1), 70);
            Due.due("FLOUR", x.status(3), 800);
            Due.due("WIND", x.status(4), 6);
            Due.due("SEED", x.status(5), -77);
            Due.due("KIND", x.placeOf(1, 0), 5);
            Due.due("a", x.placeOf(1, 1), 9);
            Due.due("the third is gone", x.placeOf(2, 0), -5);
            x.road(0, 1, 3);
            x.ask(0, 1);
            x.seed(4);
        }
        Due.refusals("stay", x, 0, 0, 0, 0, 2, 1);
        Due.due("restore once more", x.restore(), 2);
        Due.due("a new PLACE", x.place(0, 3), 2);
        Due.due("has no ROADS of the older", x.placeOf(2, 2), 0);
        Due.due("its KIND", x.placeOf(2, 0), 0);
        Due.due("its a", x.placeOf(2, 1), 3);
        x.act(0, 0, 1);
        x.restore();
        Due.due("THE TRACE stays", x.trace(0), 20);
        x.place(2, 0);
        x.road(0, 2, 8);
        x.image();
        x.restore();
        Due.due("THE IMAGE stays", x.restore(), 3);
        Due.due("with its ROAD", x.miles(2, 0), 8);
    }

    private static void promise40Shelves() {
        MillOfDistances x = some();
        x.show(0, 1);
        x.row(1, 2, 2);
        x.image();
        x.place(0, 0);
        x.show(2, 2);
        x.show(0, 0);
        x.set(1, 1, 5);
        x.show(4, 1);
        x.row(5, 3, 7);
        x.restore();
        Due.due("no SHELVES in THE IMAGE", x.holds(0), 0);
        Due.due("the ROW stays", x.element(1, 1), 5);
        Due.due("a PLACE that is gone", x.holds(2), -1);
        Due.due("NOTHING stays", x.holds(3), -1);
        Due.due("a PLACE that is there", x.holds(4), 1);
        Due.due("a new ROW stays", x.holds(5), 103);
        x.place(4, 0);
        Due.due("NOTHING is no PLACE again", x.holds(2), -1);
        Due.due("says NOTHING", x.says(2, 0), -3);
        MillOfDistances y = Due.millOf(0, 0);
        y.image();
        y.restore();
        y.place(1, 0);
        y.place(1, 0);
        y.show(0, 3);
        y.image();
        y.show(1, 2);
        Due.due("all four", y.restore(), 4);
        Due.due("the last", y.holds(0), 3);
        Due.due("the third", y.holds(1), 2);
    }

    private static void promise41() {
        MillOfDistances x = some();
        x.place(0, 0);
        Due.roads(x, 2, 1, 31, 0, 2, 1);
        int[] want = {3, 3, 102, 800, 6, -77, 0, -1, -1, -1, -1};
        for (int what = 0; what < want.length; what++) {
            Due.due("status(" + what + ")", x.status(what), want[what]);
        }
        Due.due("status(-1)", x.status(-1), -1);
        Due.due("status(18)", x.status(18), -1);
        Due.due("the greatest", x.status(Integer.MAX_VALUE), -1);
        Due.due("the least", x.status(Integer.MIN_VALUE), -1);
        x.road(1, 0, 0);
        Due.due("ROADS", x.status(1), 2);
        Due.due("all MILES", x.status(2), 32);
        x.act(1, 1, 0);
        Due.due("bodies", x.status(6), 3);
        Due.refusals("none", x);
        x.away(9, 0);
        x.show(0, 0);
        x.judge(0);
        x.pinches(1, 0);
        x.row(1, 2, 0);
        x.journey(0, 1, 1, -4);
        x.judge(1);
        x.miles(1, 1);
        Due.refusals("below ten count as those above", x, 1, 1, 1, 1, 1, 1);
        x.row(0, 0, 161);
        x.row(0, 0, -1);
        x.away(0, 2);
        x.away(0, 1);
        Due.refusals("of all", x, 1, 1, 1, 2, 1, 1, 1);
        Due.due("status itself is no refusal", x.status(99), -1);
        Due.refusals("of all again", x, 1, 1, 1, 2, 1, 1, 1);
        MillOfDistances y = Due.millOf(0, 0);
        Due.due("NONE is no refusal: away", y.away(0, 1), -1);
        Due.due("NONE is no refusal: meet", y.meet(0, 1), -1);
        Due.due("NONE is no refusal: cheapest", y.cheapest(0, 1, 9, 0), -1);
        y.row(0, 0, 0);
        Due.due("-1 is no refusal: journey", y.journey(0, 1, 0, 0), -1);
        Due.due("NONE is no refusal: pinches", y.pinches(0, 0), -1);
        Due.due("NONE is no refusal: holds", y.holds(3), -1);
        Due.due("NONE is no refusal: trace", y.trace(0), -1);
        Due.refusals("of none", y);
    }
}
