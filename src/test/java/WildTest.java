import java.lang.reflect.Method;
import java.util.Random;

/** Every method with numbers far and near: nothing throws, and what is refused changes only the count of REFUSALS. */
public final class WildTest {
    private static final int[] WILD = {
        Integer.MIN_VALUE, Integer.MIN_VALUE + 1, -65_536, -1000, -2, -1, 0, 1, 2, 3, 4, 5, 7, 8, 9, 10, 20, 60, 61, 99,
        160, 161, 998, 999, 1000, 9999, 10_000, 99_999, 100_000, 1 << 30, Integer.MAX_VALUE - 1, Integer.MAX_VALUE
    };

    public static void main(String[] args) throws ReflectiveOperationException {
        Random random = new Random(5);
        Method[] methods = MillOfDistances.class.getDeclaredMethods();
        java.util.Arrays.sort(methods, (a, b) -> a.toString().compareTo(b.toString()));
        for (Method method : methods) {
            if (java.lang.reflect.Modifier.isPublic(method.getModifiers())) {
                for (int turn = 0; turn < 50; turn++) {
                    MillOfDistances x = some(turn % 6);
                    for (int call = 0; call < 3; call++) {
                        wild(x, method, random);
                    }
                }
            }
        }
        Due.end();
    }

    private static MillOfDistances some(int places) {
        MillOfDistances x = new MillOfDistances();
        for (int p = 0; p < places; p++) {
            x.place((p * 3 + places) % 7, p);
            x.road(p, p / 2, 7 * p);
        }
        x.ask(0, 50);
        x.ask(1, 4);
        for (int sort = 0; sort < 4; sort++) {
            x.row(sort, sort, 20 + sort);
            for (int i = 0; i < 20; i++) {
                x.set(sort, i, WILD[(5 * i + sort) % WILD.length]);
            }
        }
        x.show(4, 0);
        x.show(5, 3);
        return x;
    }

    private static void wild(MillOfDistances x, Method method, Random random) throws ReflectiveOperationException {
        Object[] numbers = new Object[method.getParameterCount()];
        StringBuilder call = new StringBuilder(method.getName());
        for (int i = 0; i < numbers.length; i++) {
            int n = random.nextBoolean() ? WILD[random.nextInt(WILD.length)] : random.nextInt(6);
            boolean isLong = method.getParameterTypes()[i] == long.class;
            numbers[i] = isLong ? (Object) (n * 77_777_777_777L) : (Object) n;
            call.append(' ').append(numbers[i]);
        }
        long before = seen(x);
        int refused = refused(x);
        long answer = ((Number) method.invoke(x, numbers)).longValue();
        int more = refused(x) - refused;
        boolean looksRefused = answer >= -17 && answer <= -1;
        Due.due(call + ": refused once at most", more == 0 || (more == 1 && looksRefused) ? 1 : 0, 1);
        if (more == 1) {
            Due.due(call + ": changed by a refusal", seen(x), before);
        }
    }

    private static int refused(MillOfDistances x) {
        int sum = 0;
        for (int what = 11; what <= 17; what++) {
            sum += x.status(what);
        }
        return sum;
    }

    private static long seen(MillOfDistances x) {
        long all = 17;
        for (int what = 0; what <= 6; what++) {
            all = 31 * all + x.status(what);
        }
        int places = x.status(0);
        for (int p = 0; p < places; p++) {
            all = 31 * all + x.placeOf(p, 0);
            all = 31 * all + x.placeOf(p, 1);
            for (int q = 0; q < p; q++) {
                all = 31 * all + x.miles(p, q);
            }
        }
        for (int s = 0; s < 8; s++) {
            all = 31 * all + x.holds(s);
            all = 31 * all + x.element(s, 0);
            all = 31 * all + x.element(s, 3);
        }
        return all;
    }
}
