/** Promises 1 to 8: a new object and its SHELVES. */
public final class ShelvesTest {
    public static void main(String[] args) {
        promise1();
        promise2();
        promise3();
        promise4();
        promise4Refused();
        promise5();
        promise6();
        promise7();
        promise8();
        promise8Refused();
        Due.end();
    }

    private static void promise1() {
        MillOfDistances x = new MillOfDistances();
        for (int what = 0; what <= 4; what++) {
            Due.due("new: status(" + what + ")", x.status(what), 0);
        }
        Due.due("new: SEED", x.status(5), 1);
        Due.due("new: bodies", x.status(6), 0);
        Due.refusals("of a new object", x);
        for (int s = 0; s < 8; s++) {
            Due.due("new: holds(" + s + ")", x.holds(s), -1);
        }
        Due.due("new: fault()", x.fault(), -1);
        Due.due("new: trace(0)", x.trace(0), -1);
        Due.due("new: restore()", x.restore(), -6);
        MillOfDistances y = new MillOfDistances();
        x.place(0, 0);
        x.ask(0, 5);
        x.row(0, 0, 1);
        Due.due("another object has no PLACES", y.status(0), 0);
        Due.due("another object has no FLOUR", y.status(3), 0);
        Due.due("another object has no ROWS", y.holds(0), -1);
    }

    private static void promise2() {
        MillOfDistances x = Due.millOf(0);
        Due.due("row", x.row(0, 0, 3), 1);
        Due.due("holds", x.holds(0), 100);
        x.set(0, 2, 77);
        Due.due("row again", x.row(0, 3, 160), 1);
        Due.due("its elements are new", x.element(0, 2), 0);
        Due.due("its last element", x.set(0, 159, 9), 1);
        Due.due("behind the last", x.set(0, 160, 9), -5);
        Due.due("an empty row", x.row(0, 2, 0), 1);
        Due.due("an empty row has no element", x.set(0, 0, 1), -5);
        Due.due("row 160 again", x.row(0, 2, 160), 1);
        Due.due("nothing is left of the older row", x.element(0, 159), 0);
        x.show(7, 0);
        Due.due("row over a PLACE", x.row(7, 1, 1), 1);
        Due.due("no PLACE any more", x.holds(7), 101);
        Due.due("row(-1, ..)", x.row(-1, 9, -1), -1);
        Due.due("row(8, ..)", x.row(8, 0, 1), -1);
        Due.due("row of -1", x.row(1, 4, -1), -4);
        Due.due("row of the least int", x.row(1, 0, Integer.MIN_VALUE), -4);
        Due.due("sort -1", x.row(1, -1, 161), -6);
        Due.due("sort 4", x.row(1, 4, 0), -6);
        Due.due("161 elements", x.row(1, 3, 161), -7);
        Due.due("the greatest int of elements", x.row(1, 0, Integer.MAX_VALUE), -7);
        Due.due("a refused row is not there", x.holds(1), -1);
        Due.due("a refused row over a row", x.row(7, 0, 161), -7);
        Due.due("leaves that as it is", x.holds(7), 101);
        Due.refusals("of rows", x, 2, 0, 0, 2, 2, 2, 3);
    }

    private static void promise3() {
        long wide = 0x1234_5678_9ABC_DEF0L;
        MillOfDistances x = Due.millOf(0);
        long[] kept = {(byte) wide, (short) wide, (int) wide, wide};
        for (int sort = 0; sort < 4; sort++) {
            x.row(0, sort, 2);
            Due.due("set of sort " + sort, x.set(0, 1, wide), 1);
            Due.due("kept by sort " + sort, x.element(0, 1), kept[sort]);
            Due.due("the other element of sort " + sort, x.element(0, 0), 0);
            x.set(0, 0, 200 + 65536L * 40000);
            long[] other = {-56, 200, (int) (200 + 65536L * 40000), 200 + 65536L * 40000};
            Due.due("200 and more by sort " + sort, x.element(0, 0), other[sort]);
        }
        x.show(1, 0);
        Due.due("set(-1, ..)", x.set(-1, 0, 1), -1);
        Due.due("set(8, ..)", x.set(8, 0, 1), -1);
        Due.due("set in a PLACE", x.set(1, 5, 1), -2);
        Due.due("set in NOTHING", x.set(2, -1, 1), -3);
        Due.due("element -1", x.set(0, -1, 1), -5);
        Due.due("element 2 of 2", x.set(0, 2, 1), -5);
        Due.due("the greatest element", x.set(0, Integer.MAX_VALUE, 1), -5);
        Due.refusals("of sets", x, 2, 1, 1, 0, 3);
    }

    private static void promise4() {
        MillOfDistances x = new MillOfDistances();
        Due.fill(x, 0, 1, 1, 2, 3, 4, 5);
        Due.fill(x, 1, 1, 0, 0, 0);
        Due.due("copy", x.copy(0, 1, 2, 1, 2), 1);
        long[] want = {0, 3, 4};
        for (int i = 0; i < 3; i++) {
            Due.due("copied " + i, x.element(1, i), want[i]);
        }
        Due.due("copy ahead in one ROW", x.copy(0, 0, 0, 1, 4), 1);
        long[] ahead = {1, 1, 2, 3, 4};
        for (int i = 0; i < 5; i++) {
            Due.due("ahead " + i, x.element(0, i), ahead[i]);
        }
        Due.due("copy back in one ROW", x.copy(0, 0, 1, 0, 4), 1);
        long[] back = {1, 2, 3, 4, 4};
        for (int i = 0; i < 5; i++) {
            Due.due("back " + i, x.element(0, i), back[i]);
        }
        Due.due("copy of none", x.copy(0, 1, 5, 3, 0), 1);
        Due.due("copy of all", x.copy(1, 0, 0, 2, 3), 1);
        Due.due("the last came over", x.element(0, 4), 4);
        Due.refusals("of copies that stand", x);
        Due.fill(x, 2, 3, Long.MIN_VALUE, -7);
        Due.fill(x, 3, 3, 0, 0);
        Due.due("copy of longs", x.copy(2, 3, 0, 0, 2), 1);
        Due.due("a whole long", x.element(3, 0), Long.MIN_VALUE);
        x.set(2, 0, 5);
        Due.due("the copy stays", x.element(3, 0), Long.MIN_VALUE);
    }

    private static void promise4Refused() {
        MillOfDistances x = Due.millOf(0);
        x.row(0, 1, 4);
        x.row(1, 1, 2);
        x.row(2, 2, 4);
        x.show(3, 0);
        Due.due("no SHELF p", x.copy(-1, 3, 0, 0, 1), -1);
        Due.due("no SHELF q", x.copy(3, 8, 0, 0, 1), -1);
        Due.due("p a PLACE, q NOTHING", x.copy(3, 4, 0, 0, 1), -2);
        Due.due("p NOTHING, q a PLACE", x.copy(4, 3, 0, 0, 1), -2);
        Due.due("p a PLACE", x.copy(3, 0, 0, 0, -1), -2);
        Due.due("q a PLACE", x.copy(0, 3, 0, 0, -1), -2);
        Due.due("two SORTS", x.copy(0, 2, -1, 0, -1), -2);
        Due.due("p NOTHING", x.copy(4, 0, 0, 0, -1), -3);
        Due.due("q NOTHING", x.copy(0, 4, 0, 0, -1), -3);
        Due.due("both NOTHING", x.copy(4, 4, 0, 0, 0), -3);
        Due.due("n -1", x.copy(0, 1, -1, 9, -1), -4);
        Due.due("i -1", x.copy(0, 1, -1, 0, 1), -5);
        Due.due("j -1", x.copy(0, 1, 0, -1, 1), -5);
        Due.due("end behind p", x.copy(1, 0, 1, 0, 2), -5);
        Due.due("end behind q", x.copy(0, 1, 0, 1, 2), -5);
        Due.due("none from behind the end of p", x.copy(1, 0, 3, 0, 0), -5);
        Due.due("a wrapping end", x.copy(0, 1, 1, 1, Integer.MAX_VALUE), -5);
        Due.due("a wrapping i", x.copy(0, 1, Integer.MAX_VALUE, 0, 1), -5);
        Due.refusals("of copies", x, 2, 5, 3, 1, 7);
    }

    private static void promise5() {
        MillOfDistances x = Due.millOf(0);
        Due.fill(x, 0, 2, 8, -9);
        x.show(1, 0);
        Due.due("element", x.element(0, 1), -9);
        Due.due("element -1", x.element(0, -1), 0);
        Due.due("element 2 of 2", x.element(0, 2), 0);
        Due.due("element of a PLACE", x.element(1, 0), 0);
        Due.due("element of NOTHING", x.element(2, 0), 0);
        Due.due("element of no SHELF", x.element(8, 0), 0);
        Due.due("element of SHELF -1", x.element(-1, 0), 0);
        x.row(0, 2, 1);
        Due.due("element of an older ROW", x.element(0, 1), 0);
        Due.refusals("of elements", x);
    }

    private static void promise6() {
        MillOfDistances x = Due.millOf(0, 4);
        x.row(0, 2, 3);
        Due.due("show a PLACE", x.show(0, 1), 1);
        Due.due("it is there", x.holds(0), 1);
        Due.due("the ROW is gone", x.element(0, 0), 0);
        Due.due("show another", x.show(0, 0), 1);
        Due.due("no such PLACE", x.show(0, 2), -1);
        Due.due("PLACE -2", x.show(0, -2), -1);
        Due.due("refused: still there", x.holds(0), 0);
        Due.due("show NOTHING", x.show(0, -1), 0);
        Due.due("NOTHING is there", x.holds(0), -1);
        Due.due("set in it", x.set(0, 0, 1), -3);
        Due.due("SHELF 8", x.show(8, -1), -1);
        Due.due("SHELF -1", x.show(-1, 0), -1);
        Due.refusals("of shows", x, 4, 0, 1);
    }

    private static void promise7() {
        MillOfDistances x = Due.millOf(0, 0, 0);
        for (int sort = 0; sort < 4; sort++) {
            x.row(sort, sort, 0);
            Due.due("holds a ROW of " + sort, x.holds(sort), 100 + sort);
        }
        x.show(7, 2);
        Due.due("holds a PLACE", x.holds(7), 2);
        Due.due("holds NOTHING", x.holds(6), -1);
        Due.due("no SHELF", x.holds(8), -1);
        Due.due("SHELF -1", x.holds(-1), -1);
        Due.refusals("of holds", x);
    }

    private static void promise8() {
        MillOfDistances x = new MillOfDistances();
        for (int kind = 0; kind < 7; kind++) {
            Due.due("place", x.place(kind, 7), kind);
            Due.due("show", x.show(kind, kind), 1);
        }
        Due.roads(x, 0, 1, 5, 0, 2, 5, 6, 0, 5);
        int[] roads = {3, 1, 1, 0, 0, 0, 1};
        for (int kind = 0; kind < 7; kind++) {
            Due.due("taken for a PLACE " + kind, x.says(kind, 0), roads[kind]);
        }
        Due.due("a HILL as such", x.says(1, 1), 20);
        Due.due("a PEAK as a HILL", x.says(3, 1), 30);
        Due.due("a PEAK as such", x.says(3, 3), 30);
        Due.due("a MARSH as such", x.says(2, 2), 8);
        Due.due("a BOG as a MARSH", x.says(5, 2), 9);
        Due.due("a BOG as such", x.says(5, 5), 9);
        Due.due("a TOWN as such", x.says(4, 4), 90);
        Due.due("a CITY as a TOWN", x.says(6, 4), 89);
        Due.due("a CITY as such", x.says(6, 6), 89);
        Due.refusals("of says that stand", x);
    }

    private static void promise8Refused() {
        MillOfDistances x = new MillOfDistances();
        int[][] above = {{0}, {0, 1}, {0, 2}, {0, 1, 3}, {0, 4}, {0, 2, 5}, {0, 4, 6}};
        int others = 0;
        for (int kind = 0; kind < 7; kind++) {
            x.place(kind, 0);
            x.show(kind, kind);
            for (int taken = 0; taken < 7; taken++) {
                boolean may = false;
                for (int k : above[kind]) {
                    may |= k == taken;
                }
                if (!may) {
                    others++;
                    Due.due("a " + kind + " taken for a " + taken, x.says(kind, taken), -2);
                }
            }
        }
        Due.due("NOTHING", x.says(7, 0), -3);
        x.row(7, 0, 1);
        Due.due("a ROW", x.says(7, 0), -2);
        Due.due("no SHELF", x.says(8, 0), -1);
        Due.due("SHELF -1", x.says(-1, 0), -1);
        Due.due("KIND -1 of a ROW", x.says(7, -1), -1);
        Due.due("KIND 7", x.says(0, 7), -1);
        Due.refusals("of says", x, 4, others + 1, 1);
    }
}
