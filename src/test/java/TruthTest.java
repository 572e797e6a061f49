/** Promises 33 to 36: milling, spreading and a GALE in truth, SEED. */
public final class TruthTest {
    public static void main(String[] args) {
        promise33();
        promise34();
        promise35();
        promise35Bounds();
        promise35Refused();
        promise36();
        Due.end();
    }

    private static void promise33() {
        MillOfDistances x = Due.millOf(1, 2, 4);
        Due.roads(x, 0, 1, 30, 1, 2, 9, 0, 2, 13);
        Due.due("HILL and MARSH", x.mill(1, 0), 11);
        Due.due("the ROAD is gone", x.miles(0, 1), 0);
        Due.due("it can't be milled again", x.mill(0, 1), -6);
        Due.due("MARSH and TOWN", x.mill(1, 2), 15);
        x.ask(0, 99_990);
        Due.due("more than may be is lost", x.mill(0, 2), 99_999);
        Due.due("no ROADS are left", x.status(1), 0);
        Due.due("no such PLACE", x.mill(0, 3), -1);
        Due.due("PLACE -1", x.mill(-1, -1), -1);
        Due.due("the same", x.mill(2, 2), -6);
        Due.due("FLOUR", x.status(3), 99_999);
        Due.refusals("of mills", x, 2, 0, 0, 0, 0, 2);
        MillOfDistances y = Due.millOf(0, 6);
        Due.roads(y, 0, 1, 9);
        y.ask(0, 99_990);
        Due.due("just as much as may be", y.mill(0, 1), 99_999);
    }

    private static void promise34() {
        MillOfDistances x = new MillOfDistances();
        x.place(0, 0);
        x.place(2, 3);
        x.place(6, 0);
        x.place(6, 0);
        Due.roads(x, 0, 1, 10, 2, 3, 5);
        x.ask(0, 20);
        Due.due("NEAR", x.spread(0, 1, -9), 1);
        Due.due("its COST", x.status(3), 8);
        Due.due("no nearer", x.spread(1, 0, -1), -6);
        Due.due("FAR", x.spread(1, 0, 5), 6);
        Due.due("all FLOUR is gone", x.status(3), 0);
        Due.due("no FLOUR", x.spread(0, 1, 1), -6);
        Due.due("free between CITIES", x.spread(2, 3, 1), 6);
        Due.due("one pinch of them", x.spread(2, 3, 2), -6);
        x.ask(0, 99_999);
        Due.due("999 MILES", x.spread(3, 2, 993), 999);
        Due.due("no farther", x.spread(3, 2, 1), -6);
        Due.due("998 nearer", x.spread(2, 3, -998), 1);
        Due.due("998 farther", x.spread(2, 3, 998), 999);
        Due.due("999 nearer", x.spread(2, 3, -999), -6);
        Due.due("FLOUR behind it", x.status(3), 99_999 - 893 - 898 - 898);
        Due.due("by 0", x.spread(0, 1, 0), -6);
        Due.due("the least int", x.spread(0, 1, Integer.MIN_VALUE), -6);
        Due.due("the greatest int", x.spread(0, 1, Integer.MAX_VALUE), -6);
        Due.due("no ROAD", x.spread(0, 2, 1), -6);
        Due.due("the same", x.spread(0, 0, 1), -6);
        Due.due("no such PLACE", x.spread(0, 4, 0), -1);
        Due.due("PLACE -1", x.spread(-1, 0, 1), -1);
        Due.due("MILES stay", x.status(2), 6 + 999);
        Due.refusals("of spreads", x, 2, 0, 0, 0, 0, 10);
    }

    private static int drawn(int[] seed, int below) {
        seed[0] = seed[0] * 1103515245 + 12345;
        return (seed[0] >> 16 & 0xFFFF) % below;
    }

    private static void promise35() {
        int[][] laid = {{0, 1, 30}, {1, 2, 40}, {0, 3, 50}, {2, 4, 60}};
        for (int wind = 0; wind <= 9; wind++) {
            for (int s = -3; s <= 3; s++) {
                MillOfDistances x = Due.millOf(0, 1, 2, 3, 4);
                int[][] miles = new int[5][5];
                for (int[] road : laid) {
                    x.road(road[0], road[1], road[2]);
                    miles[road[0]][road[1]] = road[2];
                    miles[road[1]][road[0]] = road[2];
                }
                x.ask(0, 1000);
                x.ask(1, wind);
                int[] seed = {s * 123_456_789};
                x.seed(seed[0]);
                int more = 0;
                for (int k = 0; k < 37; k++) {
                    int p = drawn(seed, 5);
                    int q = drawn(seed, 5);
                    if (miles[p][q] != 0) {
                        int n = drawn(seed, wind + 1);
                        more += n;
                        miles[p][q] += n;
                        miles[q][p] = miles[p][q];
                    }
                }
                String name = " by WIND " + wind + " and SEED " + s;
                Due.due("gale" + name, x.gale(37), more);
                Due.due("SEED" + name, x.status(5), seed[0]);
                Due.due("FLOUR" + name, x.status(3), 1000 - more);
                for (int[] road : laid) {
                    Due.due("MILES" + name, x.miles(road[0], road[1]), miles[road[0]][road[1]]);
                }
            }
        }
    }

    private static void promise35Bounds() {
        MillOfDistances x = Due.millOf(0, 0);
        Due.roads(x, 0, 1, 999);
        x.ask(0, 500);
        x.ask(1, 9);
        int[] seed = {1};
        int gone = 0;
        for (int k = 0; k < 60; k++) {
            if (drawn(seed, 2) != drawn(seed, 2)) {
                gone += drawn(seed, 10);
            }
        }
        Due.due("no MILES more than 999", x.gale(60), 0);
        Due.due("999 MILES", x.miles(0, 1), 999);
        Due.due("FLOUR is gone all the same", x.status(3), 500 - gone);
        Due.due("SEED", x.status(5), seed[0]);
        x.road(0, 1, 990);
        x.ask(0, 3);
        Due.due("the MILES up to 999", x.gale(60), 9);
        Due.due("no FLOUR below 0", x.status(3), 0);
        MillOfDistances one = Due.millOf(0);
        int[] alone = {1};
        for (int k = 0; k < 4; k++) {
            drawn(alone, 1);
        }
        Due.due("one PLACE alone", one.gale(2), 0);
        Due.due("two draws each", one.status(5), alone[0]);
    }

    private static void promise35Refused() {
        MillOfDistances x = new MillOfDistances();
        Due.due("no PLACES", x.gale(0), -5);
        Due.due("no PLACES, 1", x.gale(1), -5);
        x.place(0, 0);
        Due.due("0 draws", x.gale(0), -6);
        Due.due("-1 draws", x.gale(-1), -6);
        Due.due("61 draws", x.gale(61), -6);
        Due.due("SEED stays", x.status(5), 1);
        Due.due("60 draws", x.gale(60), 0);
        Due.refusals("of gales", x, 0, 0, 0, 0, 2, 3);
    }

    private static void promise36() {
        MillOfDistances x = new MillOfDistances();
        Due.due("at first", x.seed(Integer.MIN_VALUE), 1);
        Due.due("then", x.seed(-1), Integer.MIN_VALUE);
        Due.due("status", x.status(5), -1);
        Due.due("then", x.seed(0), -1);
        x.place(0, 0);
        x.gale(1);
        Due.due("behind two draws", x.seed(5), 12345 * 1103515245 + 12345);
        Due.refusals("of seeds", x);
    }
}
