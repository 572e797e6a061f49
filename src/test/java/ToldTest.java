/** Promises 26 to 32: JOURNEYS, told TABLES, told PINCHES, THEFTS. */
public final class ToldTest {
    public static void main(String[] args) {
        promise26();
        promise26Bounds();
        promise26Refused();
        promise27();
        promise28();
        promise29();
        promise29Refused();
        promise30();
        promise31();
        promise32();
        promise32Others();
        Due.end();
    }

    /** 0-1 10, 1-2 10, 0-2 30, 2-3 5; 4 alone. */
    private static MillOfDistances walk() {
        MillOfDistances x = Due.millOf(1, 2, 3, 4, 5);
        Due.roads(x, 0, 1, 10, 1, 2, 10, 0, 2, 30, 2, 3, 5);
        return x;
    }

    private static void journeyIs(MillOfDistances x, int from, int to, int length, long... told) {
        Due.fill(x, 0, 2, told);
        Due.due("JOURNEY from " + from + " to " + to + " by " + java.util.Arrays.toString(told),
                x.journey(from, to, 0, told.length / 4), length);
    }

    private static void promise26() {
        MillOfDistances x = walk();
        journeyIs(x, 0, 3, 25);
        journeyIs(x, 3, 3, 0, 0, 1, 5, 0);
        journeyIs(x, 0, 4, -1, 0, 1, 5, 0);
        journeyIs(x, 0, 2, 25, 0, 1, 5, 0);
        journeyIs(x, 0, 2, 20, 0, 1, 5, 1);
        journeyIs(x, 0, 2, 20, 0, 1, 5, 9, 1, 0, 5, 10);
        journeyIs(x, 0, 2, 17, 1, 2, -3, 10);
        journeyIs(x, 0, 2, 20, 1, 2, -3, 11);
        journeyIs(x, 0, 2, 20, 1, 2, -3, 20);
        journeyIs(x, 0, 2, 10 + 10 + 1, 1, 2, 100, 10, 0, 2, -29, 10);
        journeyIs(x, 0, 2, 10 + 11, 1, 2, 100, 2, 2, 0, -40, 3);
        journeyIs(x, 0, 2, 10 + 15, 1, 2, 5, 3, 0, 2, -15, 8);
        journeyIs(x, 0, 3, 4 + 5, 0, 2, -26, 0);
        journeyIs(x, 0, 3, 30 + 5, 0, 1, 900, 0);
        journeyIs(x, 0, 2, 30, 0, 1, 900, 0, 0, 1, -905, 1);
        journeyIs(x, 0, 3, 20 + 7, 3, 2, 2, 15);
        journeyIs(x, 0, 3, 20 + 7, 3, 2, 2, 20);
        journeyIs(x, 0, 3, 25, 3, 2, 2, 21);
        journeyIs(x, 0, 3, 20 + 5 + 1, 2, 3, -2, 5, 2, 3, 3, 5);
        Due.due("nothing is changed", x.status(2), 55);
        Due.refusals("of journeys that stand", x);
    }

    private static void promise26Bounds() {
        MillOfDistances x = walk();
        journeyIs(x, 0, 2, 1 + 10, 0, 1, -10, 0);
        journeyIs(x, 0, 2, 1 + 10, 0, 1, Integer.MIN_VALUE, 0);
        journeyIs(x, 0, 2, 11 + 10, 0, 1, -500, 0, 0, 1, 10, 0);
        journeyIs(x, 2, 3, 999, 2, 3, Integer.MAX_VALUE, 0);
        journeyIs(x, 2, 3, 998, 2, 3, 2000, 0, 3, 2, -1, 0);
        MillOfDistances y = Due.millOf(0, 0, 0, 0);
        Due.roads(y, 0, 1, 999, 1, 2, 999, 1, 3, 999, 0, 3, 1);
        y.road(0, 3, 0);
        long[] there = new long[40];
        for (int k = 0; k < 10; k++) {
            there[4 * k + 3] = 500;
            there[4 * k] = 1;
            there[4 * k + 1] = 2;
            there[4 * k + 2] = k % 2 == 0 ? 5 : -5;
        }
        journeyIs(y, 0, 2, 999 + 994, there);
        backAndForth(999, 0, 4995 + 997 + 1);
        backAndForth(999, 1, 4995 + 2 * 997 + 1);
        backAndForth(999, 4, 4995 + 5 * 997 + 1);
        backAndForth(20, 5, 9999);
        backAndForth(21, 5, -2);
        backAndForth(999, 5, -2);
    }

    /** From 5 on he is turned back between 5 and 6, as 7 is near now the one, now the other. */
    private static void backAndForth(int first, int turns, int length) {
        MillOfDistances x = Due.millOf(0, 0, 0, 0, 0, 0, 0, 0);
        Due.roads(x, 0, 1, first, 1, 2, 999, 2, 3, 999, 3, 4, 999, 4, 5, 999, 5, 6, 997, 6, 7, 1, 5, 7, 999);
        long[] told = new long[8 * turns];
        for (int k = 0; k < turns; k++) {
            int near = k % 2 == 0 ? 6 : 5;
            int behind = first + 4 * 999 + 997 * k + 5;
            long[] both = {near, 7, 998, behind, 11 - near, 7, -998, behind};
            System.arraycopy(both, 0, told, 8 * k, 8);
        }
        journeyIs(x, 0, 7, length, told);
    }

    private static void promise26Refused() {
        MillOfDistances x = walk();
        Due.fill(x, 0, 1, 0, 1, 5, 3, 1, 2, 5, 3);
        x.show(1, 0);
        Due.due("no such PLACE", x.journey(0, 5, 0, -1), -11);
        Due.due("PLACE -1", x.journey(-1, 0, 0, 0), -11);
        Due.due("no SHELF", x.journey(0, 1, 8, 0), -11);
        Due.due("a PLACE", x.journey(0, 1, 1, -1), -12);
        Due.due("NOTHING", x.journey(0, 1, 2, -1), -13);
        Due.due("n -1", x.journey(0, 1, 0, -1), -14);
        Due.due("the least n", x.journey(0, 1, 0, Integer.MIN_VALUE), -14);
        Due.due("fewer elements", x.journey(0, 1, 0, 3), -15);
        Due.due("a wrapping n", x.journey(0, 1, 0, 1 << 30), -15);
        Due.due("two stand", x.journey(0, 2, 0, 2), 25);
        Due.refusals("of journeys", x, 3, 1, 1, 2, 2);
        long[][] wrong = {
            {5, 0, 1, 0}, {0, -1, 1, 0}, {1, 1, 1, 0}, {0, 3, 1, 0}, {0, 1, 0, 0}, {0, 1, 1, -1}, {4, 0, 1, 0},
            {0, 1, 1, 3, 0, 1, 1, 2}, {0, 1, 1, 0, 3, 3, 1, 0}
        };
        for (long[] told : wrong) {
            journeyIs(x, 0, 2, -16, told);
            journeyIs(x, 0, 0, -16, told);
            journeyIs(x, 0, 4, -16, told);
        }
        Due.due("only the first is judged", x.journey(0, 2, 0, 1), 21);
        Due.refusals("of wrong journeys", x, 3, 1, 1, 2, 2, 27);
        MillOfDistances y = walk();
        long[] eleven = new long[44];
        for (int k = 0; k < 11; k++) {
            eleven[4 * k + 1] = 1;
            eleven[4 * k + 2] = 1;
        }
        Due.fill(y, 0, 3, eleven);
        Due.due("10 pinches", y.journey(0, 1, 0, 10), 20);
        Due.due("11 pinches", y.journey(0, 1, 0, 11), -16);
        y.set(0, 2, 1L << 32);
        Due.due("a long that counts 0", y.journey(0, 1, 0, 1), -16);
        y.set(0, 2, (1L << 32) + 3);
        Due.due("a long that counts 3", y.journey(0, 1, 0, 1), 13);
    }

    private static void judgeIs(MillOfDistances x, int wrong, long... told) {
        Due.fill(x, 0, 2, told);
        Due.due("WRONG of " + java.util.Arrays.toString(told), x.judge(0), wrong);
    }

    private static void promise27() {
        MillOfDistances x = Due.millOf(0, 0, 0, 0);
        judgeIs(x, -1, 1, 1, 1, 1, 1, 1);
        judgeIs(x, -1, 10, 20, 30, 10, 20, 10);
        judgeIs(x, 1, 10, 21, 30, 10, 20, 10);
        judgeIs(x, 2, 10, 20, 31, 10, 20, 10);
        judgeIs(x, 0, 10, 1, 9, 8, 10, 9);
        judgeIs(x, 4, 5, 5, 5, 5, 11, 5);
        judgeIs(x, 5, 5, 5, 5, 5, 5, 11);
        judgeIs(x, 3, 5, 5, 5, 0, 5, 5);
        judgeIs(x, 0, 5, 5, 5, -1, 5, 5);
        judgeIs(x, 0, 0, 5, 5, 5, 5, 5);
        judgeIs(x, 4, 9, 9, 1, 9, 11, 9);
        judgeIs(x, 3, 2, 5, 5, 8, 6, 5);
        judgeIs(x, 5, 5, 1, 1, 5, 5, 3);
        judgeIs(x, -1, 9, 9, 9, 9, 9, 9, -9);
        judgeIs(x, -1, Integer.MAX_VALUE, Integer.MAX_VALUE, Integer.MAX_VALUE, Integer.MAX_VALUE, Integer.MAX_VALUE,
                Integer.MAX_VALUE);
        x.row(1, 2, 5);
        x.show(2, 0);
        Due.due("no SHELF", x.judge(8), -11);
        Due.due("SHELF -1", x.judge(-1), -11);
        Due.due("a PLACE", x.judge(2), -12);
        Due.due("NOTHING", x.judge(3), -13);
        Due.due("fewer elements", x.judge(1), -15);
        Due.refusals("of judges", x, 2, 1, 1, 0, 1);
        MillOfDistances y = Due.millOf(0);
        y.row(0, 0, 0);
        Due.due("no pairs", y.judge(0), -1);
        y.place(0, 0);
        Due.due("a pair", y.judge(0), -15);
        judgeIs(y, -1, 10_000);
        judgeIs(y, 0, 0);
        MillOfDistances z = Due.millOf(0, 0);
        Due.fill(z, 0, 3, 1L << 32);
        Due.due("a long that counts 0", z.judge(0), 0);
    }

    private static void mendIs(MillOfDistances x, int less, long... told) {
        Due.fill(x, 0, 2, told);
        Due.due("MEND of " + java.util.Arrays.toString(told), x.mend(0), less);
    }

    private static void promise28() {
        MillOfDistances x = Due.millOf(0, 0, 0, 0);
        mendIs(x, 0, 10, 20, 30, 10, 20, 10);
        mendIs(x, 1, 10, 21, 30, 10, 20, 10);
        mendIs(x, 7, 10, 20, 37, 10, 20, 10);
        mendIs(x, 97 + 96 + 97, 1, 99, 99, 1, 99, 1);
        mendIs(x, 3 * 9999 - 3 * 2, 1, 1, 1, 9999, 9999, 9999);
        mendIs(x, 0, 9999, 9999, 9999, 9999, 9999, 9999);
        mendIs(x, -6, 1, 1, 1, 1, 1, 0);
        mendIs(x, -6, 1, 1, 1, 1, 1, 10_000);
        mendIs(x, -6, -1, 1, 1, 1, 1, 1);
        mendIs(x, 0, 1, 1, 1, 1, 1, 1, 0, 10_000);
        x.row(1, 2, 5);
        x.show(2, 0);
        Due.due("no SHELF", x.mend(8), -1);
        Due.due("SHELF -1", x.mend(-1), -1);
        Due.due("a PLACE", x.mend(2), -2);
        Due.due("NOTHING", x.mend(3), -3);
        Due.due("fewer elements", x.mend(1), -5);
        Due.refusals("of mends", x, 2, 1, 1, 0, 1, 3);
        MillOfDistances y = Due.millOf(0);
        y.row(0, 0, 0);
        Due.due("no pairs", y.mend(0), 0);
    }

    /** HILL and BOG of a 4, 10 MILES; BOG and PLACE 5; FLOUR 100. */
    private static MillOfDistances pinched() {
        MillOfDistances x = new MillOfDistances();
        x.place(1, 9);
        x.place(5, 4);
        x.place(0, 0);
        Due.roads(x, 0, 1, 10, 1, 2, 5);
        x.ask(0, 100);
        return x;
    }

    private static void pinchesAre(MillOfDistances x, int wrong, int left, long... told) {
        Due.fill(x, 0, 1, told);
        int n = told.length / 3;
        String name = " of " + java.util.Arrays.toString(told);
        Due.due("WRONG" + name, x.pinches(0, n), wrong);
        Due.due("FLOUR left" + name, x.left(0, n), left);
    }

    private static void promise29() {
        MillOfDistances x = pinched();
        pinchesAre(x, -1, 100);
        pinchesAre(x, -1, 94, 0, 1, -1);
        pinchesAre(x, -1, 78, 1, 0, -9);
        pinchesAre(x, 0, -6, 0, 1, -10);
        pinchesAre(x, -1, 4, 0, 1, 46);
        pinchesAre(x, -1, 0, 0, 1, 45, 0, 1, 1);
        pinchesAre(x, 0, -6, 0, 1, 49);
        pinchesAre(x, 1, -6, 0, 1, 46, 0, 1, 1);
        pinchesAre(x, 1, -6, 0, 1, -5, 0, 1, -5);
        pinchesAre(x, -1, 100 - 14 - 18, 0, 1, 5, 0, 1, -7);
        pinchesAre(x, 2, -6, 0, 1, 5, 0, 1, -7, 0, 2, 1);
        pinchesAre(x, 0, -6, 0, 1, 0);
        pinchesAre(x, 0, -6, 1, 1, 1);
        pinchesAre(x, 0, -6, 0, 3, 1);
        pinchesAre(x, 0, -6, -1, 0, 1);
        pinchesAre(x, 0, -6, 0, 2, 1);
        x.ask(0, 99_999);
        pinchesAre(x, -1, 99_999 - 2 * 989 - 4, 0, 1, 989);
        pinchesAre(x, 0, -6, 0, 1, 990);
        x.road(0, 1, 999);
        pinchesAre(x, -1, 99_999 - 2 * 998 - 4, 0, 1, -998);
        pinchesAre(x, 0, -6, 0, 1, -999);
        pinchesAre(x, 0, -6, 0, 1, Short.MIN_VALUE);
        pinchesAre(x, 0, -6, 0, 1, 1);
        Due.due("nothing is changed", x.status(2), 1004);
        Due.due("no FLOUR is gone", x.status(3), 99_999);
    }

    private static void promise29Refused() {
        MillOfDistances x = pinched();
        x.row(0, 2, 63);
        x.show(1, 0);
        Due.due("no SHELF", x.pinches(8, -1), -11);
        Due.due("SHELF -1", x.pinches(-1, 0), -11);
        Due.due("a PLACE", x.pinches(1, -1), -12);
        Due.due("NOTHING", x.pinches(2, -1), -13);
        Due.due("n -1", x.pinches(0, -1), -14);
        Due.due("fewer elements", x.pinches(0, 22), -15);
        Due.due("a wrapping n", x.pinches(0, Integer.MAX_VALUE), -15);
        Due.due("21 pinches", x.pinches(0, 21), -16);
        Due.due("20 pinches", x.pinches(0, 20), 0);
        Due.refusals("of pinches", x, 2, 1, 1, 1, 2, 1);
        MillOfDistances y = pinched();
        Due.fill(y, 0, 3, 1L << 32, 1, (1L << 33) - 1);
        Due.due("longs by their lowest bits", y.left(0, 1), 94);
        Due.fill(y, 0, 2, 0, 1, Integer.MIN_VALUE);
        Due.due("the least int", y.pinches(0, 1), 0);
    }

    private static void promise30() {
        MillOfDistances x = pinched();
        Due.fill(x, 0, 2, 0, 1, 1, 0, 1, -1, 0, 1, 0);
        x.show(1, 0);
        Due.due("left behind none", x.left(0, 0), 100);
        Due.due("left behind one", x.left(0, 1), 94);
        Due.due("left behind two", x.left(0, 2), 88);
        Due.due("nothing is changed", x.status(3), 100);
        Due.due("one is WRONG", x.left(0, 3), -6);
        Due.due("no SHELF", x.left(8, -1), -1);
        Due.due("SHELF -1", x.left(-1, 0), -1);
        Due.due("a PLACE", x.left(1, -1), -2);
        Due.due("NOTHING", x.left(2, -1), -3);
        Due.due("n -1", x.left(0, -1), -4);
        Due.due("fewer elements", x.left(0, 4), -5);
        x.row(0, 2, 160);
        Due.due("21 pinches", x.left(0, 21), -6);
        Due.due("60 pinches", x.left(0, 60), -5);
        Due.refusals("of lefts", x, 2, 1, 1, 1, 2, 2);
    }

    private static void promise31() {
        MillOfDistances x = pinched();
        Due.fill(x, 0, 2, 0, 1, 4, 1, 2, -2, 0, 1, 990);
        x.show(1, 0);
        Due.due("none", x.done(0, 0), 100);
        Due.due("one is WRONG", x.done(0, 3), -6);
        Due.due("nothing is changed", x.miles(0, 1), 10);
        Due.due("no FLOUR is gone", x.status(3), 100);
        Due.due("two", x.done(0, 2), 100 - 12 - 8);
        Due.due("FAR", x.miles(0, 1), 14);
        Due.due("NEAR", x.miles(2, 1), 3);
        Due.due("FLOUR", x.status(3), 80);
        Due.due("two again", x.done(0, 2), 60);
        Due.due("NEAR again", x.miles(2, 1), 1);
        Due.due("no third time", x.done(0, 2), -6);
        Due.due("FAR alone", x.done(0, 1), 48);
        Due.due("no SHELF", x.done(8, -1), -1);
        Due.due("SHELF -1", x.done(-1, 0), -1);
        Due.due("a PLACE", x.done(1, -1), -2);
        Due.due("NOTHING", x.done(2, -1), -3);
        Due.due("n -1", x.done(0, -1), -4);
        Due.due("fewer elements", x.done(0, 4), -5);
        x.row(0, 2, 63);
        Due.due("21 pinches", x.done(0, 21), -6);
        Due.refusals("of dones", x, 2, 1, 1, 1, 1, 3);
    }

    private static void theftIs(MillOfDistances x, int roads, int first, long... told) {
        Due.fill(x, 0, 2, told);
        String name = " of " + java.util.Arrays.toString(told);
        Due.due("how many" + name, x.theft(0, 0), roads);
        Due.due("the first" + name, x.theft(0, 1), first);
    }

    private static void promise32() {
        MillOfDistances x = Due.millOf(0, 0, 0);
        Due.roads(x, 0, 1, 10, 1, 2, 20);
        x.ask(0, 99_999);
        theftIs(x, 0, -5, 10, 30, 20);
        theftIs(x, 1, 101, 9, 29, 20);
        theftIs(x, 1, 109, 1, 21, 20);
        theftIs(x, 0, -5, 0, 20, 20);
        theftIs(x, 1, 10_219, 10, 11, 1);
        theftIs(x, 0, -5, 9, 30, 20);
        theftIs(x, 0, -5, 11, 31, 20);
        x.road(0, 2, 40);
        theftIs(x, 1, 201, 10, 30, 20);
        theftIs(x, 1, 211, 10, 29, 20);
        theftIs(x, 1, 239, 10, 1, 11);
        x.road(0, 2, 31);
        theftIs(x, 1, 201, 10, 30, 20);
        x.road(0, 2, 30);
        theftIs(x, 0, -5, 10, 30, 20);
        theftIs(x, 1, 201, 10, 29, 20);
        x.road(0, 1, 200);
        x.road(0, 2, 0);
        theftIs(x, 1, 199, 101, 121, 20);
        theftIs(x, 0, -5, 100, 120, 20);
        Due.due("nothing is changed", x.status(2), 220);
    }

    private static void promise32Others() {
        MillOfDistances x = Due.millOf(0, 0, 0, 0);
        Due.roads(x, 0, 1, 10, 0, 2, 500, 1, 2, 20, 0, 3, 600, 2, 3, 30);
        x.ask(0, 99_999);
        theftIs(x, 2, 201, 10, 30, 60, 20, 50, 30);
        theftIs(x, 1, 10_205, 10, 25, 55, 15, 45, 30);
        x.road(0, 2, 0);
        x.road(0, 3, 0);
        x.road(2, 3, 0);
        theftIs(x, 1, 104, 6, 26, -1, 20, -1, -1);
        theftIs(x, 0, -5, 6, 26, 10_000, 20, 10_000, 10_000);
        x.row(1, 2, 5);
        x.show(2, 0);
        Due.due("no SHELF", x.theft(8, 2), -1);
        Due.due("SHELF -1", x.theft(-1, 0), -1);
        Due.due("a PLACE", x.theft(2, 2), -2);
        Due.due("NOTHING", x.theft(3, 2), -3);
        Due.due("fewer elements", x.theft(1, 0), -5);
        Due.due("what 2", x.theft(0, 2), -5);
        Due.due("what -1", x.theft(0, -1), -5);
        Due.refusals("of thefts", x, 2, 1, 1, 0, 4);
    }
}
