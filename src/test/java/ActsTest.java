/** Promises 37 and 38: ACTS and THE TRACE. The bodies stand here once more, as a tree of classes. */
public final class ActsTest {
    private static final StringBuilder TRACE = new StringBuilder();

    private static class Place {
        int m;
        int k;

        int grinds(int x) {
            TRACE.append("10 ");
            return x + m;
        }

        int strews(int x) {
            TRACE.append("11 ");
            return grinds(x) * 2;
        }

        int blows(int x) {
            TRACE.append("12 ");
            return strews(x) ^ grinds(x - k);
        }
    }

    private static class Hill extends Place {
        @Override
        int grinds(int x) {
            TRACE.append("20 ");
            return super.grinds(x) + k;
        }
    }

    private static class Marsh extends Place {
        @Override
        int strews(int x) {
            TRACE.append("30 ");
            return super.strews(x) * 3;
        }
    }

    private static class Peak extends Hill {
        @Override
        int strews(int x) {
            TRACE.append("40 ");
            return super.strews(x + 1);
        }
    }

    private static class Town extends Place {
        @Override
        int blows(int x) {
            TRACE.append("50 ");
            return -super.blows(x);
        }

        @Override
        int grinds(int x) {
            TRACE.append("51 ");
            return super.grinds(x) - m;
        }
    }

    private static class Bog extends Marsh {
        @Override
        int blows(int x) {
            TRACE.append("60 ");
            return super.blows(x) ^ 5;
        }
    }

    private static class City extends Town {
        @Override
        int grinds(int x) {
            TRACE.append("70 ");
            return super.grinds(x) * 2;
        }

        @Override
        int strews(int x) {
            TRACE.append("71 ");
            return super.strews(x - k);
        }
    }

    public static void main(String[] args) {
        byTheTree();
        promise37();
        promise38();
        Due.end();
    }

    private static void byTheTree() {
        int[] xs = {0, 1, -1, 5, 1000, Integer.MAX_VALUE, Integer.MIN_VALUE, 123_456_789};
        for (int first = 0; first < 7; first++) {
            MillOfDistances mill = new MillOfDistances();
            for (int p = 0; p < 8; p++) {
                int kind = (first + p) % 7;
                int k = (p * 5 + first) % 10;
                mill.place(kind, k);
                Place[] tree = {new Place(), new Hill(), new Marsh(), new Peak(), new Town(), new Bog(), new City()};
                Place place = tree[kind];
                place.m = p;
                place.k = k;
                int x = xs[(first + p) % xs.length];
                for (int act = 0; act < 3; act++) {
                    TRACE.setLength(0);
                    int want = act == 0 ? place.grinds(x) : act == 1 ? place.strews(x) : place.blows(x);
                    String name = " of KIND " + kind + " act " + act + " x " + x;
                    Due.due("act" + name, mill.act(p, act, x), want);
                    String[] bodies = TRACE.toString().trim().split(" ");
                    Due.due("bodies" + name, mill.status(6), bodies.length);
                    for (int i = 0; i < bodies.length; i++) {
                        Due.due("trace " + i + name, mill.trace(i), Integer.parseInt(bodies[i]));
                    }
                    Due.due("behind the trace" + name, mill.trace(bodies.length), -1);
                }
            }
        }
    }

    private static void promise37() {
        MillOfDistances x = Due.millOf(0, 6);
        Due.due("a CITY blows", x.act(1, 2, 3), -((2 * 2 * 3) ^ (2 * 3)));
        Due.due("its bodies", x.status(6), 10);
        Due.due("no such PLACE", x.act(2, 2, 3), 0);
        Due.due("no TRACE then", x.trace(0), -1);
        Due.due("no bodies then", x.status(6), 0);
        x.act(0, 0, 9);
        Due.due("PLACE -1", x.act(-1, 0, 9), 0);
        Due.due("no TRACE then", x.trace(0), -1);
        x.act(0, 0, 9);
        Due.due("act 3", x.act(0, 3, 9), 0);
        Due.due("no TRACE then", x.trace(0), -1);
        x.act(0, 0, 9);
        Due.due("act -1", x.act(0, -1, 9), 0);
        Due.due("no bodies then", x.status(6), 0);
        Due.refusals("of acts", x);
    }

    private static void promise38() {
        MillOfDistances x = Due.millOf(1, 4);
        Due.due("none yet", x.trace(0), -1);
        x.act(0, 1, 4);
        int[] want = {11, 20, 10, -1};
        for (int i = 0; i < want.length; i++) {
            Due.due("trace(" + i + ")", x.trace(i), want[i]);
        }
        Due.due("trace(-1)", x.trace(-1), -1);
        Due.due("trace(20)", x.trace(20), -1);
        Due.due("the greatest i", x.trace(Integer.MAX_VALUE), -1);
        Due.due("the least i", x.trace(Integer.MIN_VALUE), -1);
        x.act(1, 0, 4);
        Due.due("the latest act's", x.trace(0), 51);
        Due.due("the latest act's second", x.trace(1), 10);
        Due.due("nothing of the older", x.trace(2), -1);
        Due.refusals("of traces", x);
    }
}
