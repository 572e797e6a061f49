import java.util.Arrays;

/** Places, roads between them, and flour that brings two nearer or farther: see ../shared/DOC.md. */
public final class MillOfDistances {
    public static final int NONE = -1;

    private static final int NOBODY = -1;
    private static final int OTHER = -2;
    private static final int NOTHING = -3;
    private static final int BELOW = -4;
    private static final int BEYOND = -5;
    private static final int WRONG = -6;
    private static final int ROOM = -7;
    private static final int FINE = 0;

    private static final int PLACE = 0;
    private static final int HILL = 1;
    private static final int MARSH = 2;
    private static final int PEAK = 3;
    private static final int TOWN = 4;
    private static final int BOG = 5;
    private static final int CITY = 6;
    private static final int[] KIND_ABOVE = {NONE, PLACE, PLACE, HILL, PLACE, MARSH, TOWN};

    private static final int BYTES = 0;
    private static final int SHORTS = 1;
    private static final int INTS = 2;
    private static final int LONGS = 3;

    private static final int SHELVES = 8;
    private static final int MOST_ELEMENTS = 160;
    private static final int MOST_PLACES = 8;
    private static final int MOST_A = 9;
    private static final int MOST_MILES = 999;
    private static final int MOST_PINCH = 998;
    private static final int MOST_FLOUR = 99_999;
    private static final int MOST_WIND = 9;
    private static final int MOST_WALK = 9999;
    private static final int MOST_STOLEN = 99;
    private static final int MOST_GALE = 60;
    private static final int MOST_TRACE = 20;

    /** What no WAY counts; longer than every WAY (7 ROADS of 999 MILES), so sums with it never look short. */
    private static final int NO_WAY = 10_000;

    private final Land land = new Land();
    private final Land trial = new Land();
    private final Land imaged = new Land();
    private final Lengths now = new Lengths();
    private final Lengths then = new Lengths();
    private final Shelf[] shelves = new Shelf[SHELVES];
    private final int[] refusals = new int[8];
    private final MapReader reader = new MapReader();
    private final Doer doer = new Doer();
    private boolean hasImage;

    public MillOfDistances() {
        for (int s = 0; s < SHELVES; s++) {
            shelves[s] = new Shelf();
        }
    }

    // ---- SHELVES ----

    public int row(int s, int sort, int n) {
        Shelf shelf = shelfAt(s);
        if (shelf == null) {
            return refuse(NOBODY);
        }
        if (n < 0) {
            return refuse(BELOW);
        }
        if (sort < BYTES || sort > LONGS) {
            return refuse(WRONG);
        }
        if (n > MOST_ELEMENTS) {
            return refuse(ROOM);
        }
        shelf.takeRow(sort, n);
        return 1;
    }

    public int set(int s, int i, long v) {
        Shelf shelf = shelfAt(s);
        int problem = rowProblem(shelf);
        if (problem == FINE && !shelf.hasElements(i, 1)) {
            problem = BEYOND;
        }
        if (problem != FINE) {
            return refuse(problem);
        }
        shelf.put(i, v);
        return 1;
    }

    public int copy(int p, int q, int i, int j, int n) {
        Shelf from = shelfAt(p);
        Shelf to = shelfAt(q);
        int problem = rowsProblem(from, to);
        if (problem == FINE && n < 0) {
            problem = BELOW;
        }
        if (problem == FINE && !(from.hasElements(i, n) && to.hasElements(j, n))) {
            problem = BEYOND;
        }
        if (problem != FINE) {
            return refuse(problem);
        }
        System.arraycopy(from.elements, i, to.elements, j, n);
        return 1;
    }

    public long element(int s, int i) {
        Shelf shelf = shelfAt(s);
        return rowProblem(shelf) == FINE ? shelf.at(i) : 0L;
    }

    public int show(int s, int place) {
        Shelf shelf = shelfAt(s);
        if (shelf == null || (place != NONE && !land.has(place))) {
            return refuse(NOBODY);
        }
        shelf.takePlace(place);
        return place == NONE ? 0 : 1;
    }

    public int holds(int s) {
        Shelf shelf = shelfAt(s);
        if (shelf == null) {
            return NONE;
        }
        return shelf.holdsRow() ? 100 + shelf.sort : shelf.place;
    }

    public int says(int s, int kind) {
        Shelf shelf = shelfAt(s);
        int problem = FINE;
        if (shelf == null || !isKind(kind)) {
            problem = NOBODY;
        } else if (shelf.holdsRow()) {
            problem = OTHER;
        } else if (!shelf.holdsPlace()) {
            problem = NOTHING;
        } else if (!land.isOf(shelf.place, kind)) {
            problem = OTHER;
        }
        if (problem != FINE) {
            return refuse(problem);
        }
        switch (kind) {
            case HILL:
            case PEAK:
                return land.asks(shelf.place, 10);
            case MARSH:
            case BOG:
                return land.asks(shelf.place, 1);
            case TOWN:
            case CITY:
                return land.asks(shelf.place, 99);
            default:
                return Integer.bitCount(land.neighbours(shelf.place));
        }
    }

    // ---- THE MAP ----

    public int place(int kind, int a) {
        if (!isKind(kind)) {
            return refuse(NOBODY);
        }
        if (a < 0 || a > MOST_A) {
            return refuse(WRONG);
        }
        if (!land.hasRoom()) {
            return refuse(ROOM);
        }
        return land.found(kind, a);
    }

    public int placeOf(int place, int what) {
        if (!land.has(place) || what < 0 || what > 3) {
            return refuse(BEYOND);
        }
        switch (what) {
            case 0:
                return land.kinds[place];
            case 1:
                return land.marks[place];
            case 2:
                return land.neighbours(place);
            default:
                return land.milesOf(place);
        }
    }

    public int road(int place, int other, int n) {
        if (!land.hasBoth(place, other)) {
            return refuse(NOBODY);
        }
        if (place == other || n < 0 || n > MOST_MILES) {
            return refuse(WRONG);
        }
        int had = land.between(place, other);
        land.lay(place, other, n);
        return had;
    }

    public int miles(int place, int other) {
        if (!land.hasBoth(place, other)) {
            return refuseBelowTen(NOBODY);
        }
        return place == other ? refuseBelowTen(WRONG) : land.between(place, other);
    }

    public int ask(int what, int v) {
        if (what == 0 && v >= 0 && v <= MOST_FLOUR) {
            int had = land.flour;
            land.flour = v;
            return had;
        }
        if (what == 1 && v >= 0 && v <= MOST_WIND) {
            int had = land.wind;
            land.wind = v;
            return had;
        }
        return refuse(WRONG);
    }

    public int map(int s) {
        Shelf shelf = shelfAt(s);
        int problem = rowProblem(shelf);
        if (problem != FINE) {
            return refuse(problem);
        }
        trial.becomeAs(land);
        int items = reader.read(shelf, trial);
        if (reader.fault != NONE) {
            return refuse(WRONG);
        }
        land.becomeAs(trial);
        return items;
    }

    public int fault() {
        return reader.fault;
    }

    public int cost(int place, int other, int n) {
        if (!land.hasBoth(place, other)) {
            return refuse(NOBODY);
        }
        if (place == other || n < 1 || n > MOST_PINCH) {
            return refuse(WRONG);
        }
        return land.costOf(place, other, n);
    }

    public int yields(int place, int other) {
        int problem = roadProblem(place, other);
        return problem == FINE ? land.yieldOf(place, other) : refuse(problem);
    }

    // ---- WHAT COMES OF IT ----

    public int away(int place, int other) {
        if (!land.hasBoth(place, other)) {
            return refuseBelowTen(NOBODY);
        }
        now.measure(land);
        return now.lengthOrNone(place, other);
    }

    public int shortest(int place, int other, int i) {
        if (!land.hasBoth(place, other)) {
            return refuse(NOBODY);
        }
        now.measure(land);
        int at = place;
        for (int k = 0; k < MOST_PLACES && now.joins(at, other); k++) {
            if (k == i) {
                return at;
            }
            if (at == other) {
                return i == NONE ? k + 1 : refuse(BEYOND);
            }
            at = now.nextOnTheWay(land, at, other);
        }
        return refuse(BEYOND);
    }

    public int within(int place, int d) {
        if (!land.has(place)) {
            return refuse(NOBODY);
        }
        if (d < 0 || d > MOST_WALK) {
            return refuse(WRONG);
        }
        now.measure(land);
        return now.reach(place, d);
    }

    public int whole(int what) {
        if (what < 0 || what > 3 || (what == 1 && land.count == 0)) {
            return refuse(BEYOND);
        }
        if (what == 3) {
            return land.leastMilesThatKeep();
        }
        now.measure(land);
        switch (what) {
            case 0:
                return now.parts();
            case 1:
                return now.middle();
            default:
                return now.greatest();
        }
    }

    public int harm(int place, int other, int what) {
        if (!land.hasBoth(place, other)) {
            return refuse(NOBODY);
        }
        if (what < 0 || what > 1) {
            return refuse(BEYOND);
        }
        int problem = roadProblem(place, other);
        if (problem != FINE) {
            return refuse(problem);
        }
        now.measure(land);
        then.measureWithout(land, place, other);
        if (what == 0) {
            return then.total() - now.total();
        }
        return now.reach(place, MOST_WALK) & ~then.reach(place, MOST_WALK);
    }

    public int leastHarm() {
        int best = NONE;
        int least = 0;
        for (int p = 0; p < land.count; p++) {
            for (int q = p + 1; q < land.count; q++) {
                if (land.between(p, q) != 0) {
                    then.measureWithout(land, p, q);
                    int total = then.total();
                    if (best == NONE || total < least) {
                        best = 100 * p + q;
                        least = total;
                    }
                }
            }
        }
        return best == NONE ? refuse(BEYOND) : best;
    }

    public int cheapest(int place, int other, int d, int what) {
        if (!land.hasBoth(place, other)) {
            return refuseBelowTen(NOBODY);
        }
        if (what < 0 || what > 2) {
            return refuseBelowTen(BEYOND);
        }
        if (place == other || d < 1 || d > MOST_WALK) {
            return refuseBelowTen(WRONG);
        }
        now.measure(land);
        if (now.length(place, other) <= d) {
            return what == 0 ? 0 : NONE;
        }
        return cheapestPinch(place, other, d, what);
    }

    /** On each ROAD the COST never falls as n grows, so its least n that is enough is its best. */
    private int cheapestPinch(int place, int other, int d, int what) {
        int best = NONE;
        int bestRoad = NONE;
        int bestMiles = NONE;
        for (int p = 0; p < land.count; p++) {
            for (int q = p + 1; q < land.count; q++) {
                int m = land.between(p, q);
                int n = m + now.lengthBeside(place, other, p, q) - d;
                if (n >= 1 && n < m && (best == NONE || land.costOf(p, q, n) < best)) {
                    best = land.costOf(p, q, n);
                    bestRoad = 100 * p + q;
                    bestMiles = n;
                }
            }
        }
        switch (what) {
            case 0:
                return best;
            case 1:
                return bestRoad;
            default:
                return bestMiles;
        }
    }

    public int meet(int place, int other) {
        if (!land.hasBoth(place, other)) {
            return refuseBelowTen(NOBODY);
        }
        now.measure(land);
        int best = NONE;
        int soonest = NO_WAY;
        for (int p = 0; p < land.count; p++) {
            int later = Math.max(now.length(place, p), now.length(other, p));
            if (later < soonest) {
                best = p;
                soonest = later;
            }
        }
        return best;
    }

    public int journey(int place, int other, int s, int n) {
        Shelf shelf = shelfAt(s);
        int problem = land.hasBoth(place, other) ? rowProblem(shelf) : NOBODY;
        if (problem == FINE) {
            problem = toldProblem(shelf, n, 4, 10);
        }
        if (problem == FINE && !canBeWalkedBy(shelf, n)) {
            problem = WRONG;
        }
        return problem == FINE ? walk(place, other, shelf, n) : refuseBelowTen(problem);
    }

    private boolean canBeWalkedBy(Shelf told, int n) {
        int latest = 0;
        for (int k = 0; k < n; k++) {
            int behind = told.asInt(4 * k + 3);
            if (land.between(told.asInt(4 * k), told.asInt(4 * k + 1)) == 0
                    || told.asInt(4 * k + 2) == 0 || behind < latest) {
                return false;
            }
            latest = behind;
        }
        return true;
    }

    private int walk(int from, int to, Shelf told, int n) {
        trial.becomeAs(land);
        then.measure(trial);
        int at = from;
        int walked = 0;
        int next = 0;
        for (int step = 0; step <= MOST_WALK && at != to; step++) {
            int done = next;
            while (next < n && told.asInt(4 * next + 3) <= walked) {
                trial.bend(told.asInt(4 * next), told.asInt(4 * next + 1), told.asInt(4 * next + 2));
                next++;
            }
            if (next != done) {
                then.measure(trial);
            }
            if (!then.joins(at, to)) {
                return -1;
            }
            int beyond = then.nextOnTheWay(trial, at, to);
            walked += trial.between(at, beyond);
            at = beyond;
            if (walked > MOST_WALK) {
                return -2;
            }
        }
        return walked;
    }

    public int judge(int s) {
        Shelf shelf = shelfAt(s);
        int problem = tableProblem(shelf);
        if (problem != FINE) {
            return refuseBelowTen(problem);
        }
        for (int p = 0; p < land.count; p++) {
            for (int q = p + 1; q < land.count; q++) {
                if (isWrongInTable(shelf, p, q)) {
                    return pairOf(p, q, land.count);
                }
            }
        }
        return NONE;
    }

    private boolean isWrongInTable(Shelf table, int p, int q) {
        long told = table.asInt(pairOf(p, q, land.count));
        if (told < 1) {
            return true;
        }
        for (int r = 0; r < land.count; r++) {
            if (r != p && r != q) {
                long byThird = (long) table.asInt(pairOf(p, r, land.count))
                        + table.asInt(pairOf(r, q, land.count));
                if (told > byThird) {
                    return true;
                }
            }
        }
        return false;
    }

    public int mend(int s) {
        Shelf shelf = shelfAt(s);
        int problem = tableProblem(shelf);
        if (problem != FINE) {
            return refuse(problem);
        }
        int told = 0;
        for (int k = 0; k < pairsOf(land.count); k++) {
            int length = shelf.asInt(k);
            if (length < 1 || length > MOST_WALK) {
                return refuse(WRONG);
            }
            told += length;
        }
        then.measureTable(shelf, land.count);
        return told - then.total();
    }

    public int pinches(int s, int n) {
        Shelf shelf = shelfAt(s);
        int problem = pinchesProblem(shelf, n);
        return problem == FINE ? firstWrongPinch(shelf, n) : refuseBelowTen(problem);
    }

    public int left(int s, int n) {
        Shelf shelf = shelfAt(s);
        int problem = pinchesProblem(shelf, n);
        if (problem == FINE && firstWrongPinch(shelf, n) != NONE) {
            problem = WRONG;
        }
        return problem == FINE ? trial.flour : refuse(problem);
    }

    public int done(int s, int n) {
        Shelf shelf = shelfAt(s);
        int problem = pinchesProblem(shelf, n);
        if (problem == FINE && firstWrongPinch(shelf, n) != NONE) {
            problem = WRONG;
        }
        if (problem != FINE) {
            return refuse(problem);
        }
        land.becomeAs(trial);
        return land.flour;
    }

    /** Leaves trial as all is behind the pinches, up to the first that may not be. */
    private int firstWrongPinch(Shelf told, int n) {
        trial.becomeAs(land);
        for (int k = 0; k < n; k++) {
            int p = told.asInt(3 * k);
            int q = told.asInt(3 * k + 1);
            int miles = told.asInt(3 * k + 2);
            if (!trial.mayPinch(p, q, miles)) {
                return k;
            }
            trial.pinch(p, q, miles);
        }
        return NONE;
    }

    public int theft(int s, int what) {
        Shelf shelf = shelfAt(s);
        int problem = tableProblem(shelf);
        if (problem == FINE && (what < 0 || what > 1)) {
            problem = BEYOND;
        }
        if (problem != FINE) {
            return refuse(problem);
        }
        now.measure(land);
        int roads = 0;
        int first = NONE;
        for (int p = 0; p < land.count; p++) {
            for (int q = p + 1; q < land.count; q++) {
                int n = stolenOn(shelf, p, q);
                if (n != 0) {
                    first = roads == 0 ? 10_000 * p + 100 * q + n : first;
                    roads++;
                }
            }
        }
        if (what == 0) {
            return roads;
        }
        return roads == 0 ? refuse(BEYOND) : first;
    }

    /**
     * The fewest MILES whose pinch on a ROAD makes all as the table tells, 0 for none. A pinch that leaves the ROAD
     * longer than its ends are AWAY changes nothing, and 1 MILE does as well; any other shows in the pair of its ends.
     */
    private int stolenOn(Shelf table, int p, int q) {
        if (isTheft(table, p, q, 1)) {
            return 1;
        }
        long n = (long) land.between(p, q) - table.asInt(pairOf(p, q, land.count));
        return n >= 1 && n <= MOST_STOLEN && isTheft(table, p, q, (int) n) ? (int) n : 0;
    }

    private boolean isTheft(Shelf table, int p, int q, int n) {
        int miles = land.between(p, q) - n;
        if (miles < 1) {
            return false;
        }
        for (int i = 0; i < land.count; i++) {
            for (int j = i + 1; j < land.count; j++) {
                int length = Math.min(now.length(i, j), miles + now.lengthBeside(i, j, p, q));
                int told = table.asInt(pairOf(i, j, land.count));
                if (told != (length < NO_WAY ? length : NONE)) {
                    return false;
                }
            }
        }
        return true;
    }

    // ---- IN TRUTH ----

    public int mill(int place, int other) {
        int problem = roadProblem(place, other);
        if (problem != FINE) {
            return refuse(problem);
        }
        land.grindRoad(place, other);
        return land.flour;
    }

    public int spread(int place, int other, int n) {
        if (!land.hasBoth(place, other)) {
            return refuse(NOBODY);
        }
        if (!land.mayPinch(place, other, n)) {
            return refuse(WRONG);
        }
        land.pinch(place, other, n);
        return land.between(place, other);
    }

    public int gale(int n) {
        if (land.count == 0) {
            return refuse(BEYOND);
        }
        if (n < 1 || n > MOST_GALE) {
            return refuse(WRONG);
        }
        int more = 0;
        for (int k = 0; k < n; k++) {
            more += land.gust();
        }
        return more;
    }

    public int seed(int v) {
        int had = land.seed;
        land.seed = v;
        return had;
    }

    public int act(int place, int act, int x) {
        doer.forget();
        if (!land.has(place) || act < 0 || act > 2) {
            return 0;
        }
        return doer.perform(land.kinds[place], place, land.marks[place], act, x);
    }

    public int trace(int i) {
        return doer.traced(i);
    }

    public int image() {
        imaged.becomeAs(land);
        hasImage = true;
        return land.count;
    }

    public int restore() {
        if (!hasImage) {
            return refuse(WRONG);
        }
        land.becomeAs(imaged);
        for (int s = 0; s < SHELVES; s++) {
            Shelf shelf = shelves[s];
            if (shelf.holdsPlace() && !land.has(shelf.place)) {
                shelf.takePlace(NONE);
            }
        }
        return land.count;
    }

    public int status(int what) {
        if (what >= 11 && what <= 17) {
            return refusals[what - 10];
        }
        switch (what) {
            case 0:
                return land.count;
            case 1:
                return land.countRoads();
            case 2:
                return land.allMiles();
            case 3:
                return land.flour;
            case 4:
                return land.wind;
            case 5:
                return land.seed;
            case 6:
                return doer.ran;
            default:
                return NONE;
        }
    }

    // ---- REFUSALS ----

    private int refuse(int number) {
        if (number >= ROOM && number <= NOBODY) {
            refusals[-number]++;
        }
        return number;
    }

    /** For calls whose answer may be -1 or so itself. */
    private int refuseBelowTen(int number) {
        return refuse(number) - 10;
    }

    private Shelf shelfAt(int s) {
        return s >= 0 && s < SHELVES ? shelves[s] : null;
    }

    private static int rowProblem(Shelf shelf) {
        if (shelf == null) {
            return NOBODY;
        }
        if (shelf.holdsPlace()) {
            return OTHER;
        }
        return shelf.holdsRow() ? FINE : NOTHING;
    }

    private static int rowsProblem(Shelf one, Shelf two) {
        if (one == null || two == null) {
            return NOBODY;
        }
        if (one.holdsPlace() || two.holdsPlace()) {
            return OTHER;
        }
        if (!one.holdsRow() || !two.holdsRow()) {
            return NOTHING;
        }
        return one.sort == two.sort ? FINE : OTHER;
    }

    private int roadProblem(int place, int other) {
        if (!land.hasBoth(place, other)) {
            return NOBODY;
        }
        return land.between(place, other) == 0 ? WRONG : FINE;
    }

    private int tableProblem(Shelf shelf) {
        int problem = rowProblem(shelf);
        return problem == FINE && shelf.size < pairsOf(land.count) ? BEYOND : problem;
    }

    private static int pinchesProblem(Shelf shelf, int n) {
        int problem = rowProblem(shelf);
        return problem == FINE ? toldProblem(shelf, n, 3, 20) : problem;
    }

    /** Of n things of so many numbers each that a ROW tells. */
    private static int toldProblem(Shelf shelf, int n, int numbers, int most) {
        if (n < 0) {
            return BELOW;
        }
        if ((long) n * numbers > shelf.size) {
            return BEYOND;
        }
        return n > most ? WRONG : FINE;
    }

    private static boolean isKind(int kind) {
        return kind >= PLACE && kind <= CITY;
    }

    private static int kindAbove(int kind) {
        return isKind(kind) ? KIND_ABOVE[kind] : NONE;
    }

    private static int pairsOf(int count) {
        return count * (count - 1) / 2;
    }

    /** The number of the pair among those of count PLACES: 0 and 1, 0 and 2, .., 1 and 2, .. */
    private static int pairOf(int p, int q, int count) {
        int lesser = Math.min(p, q);
        int greater = Math.max(p, q);
        return lesser * count - lesser * (lesser + 1) / 2 + greater - lesser - 1;
    }

    /** What a SHELF holds: NOTHING, a ROW or a PLACE. Its row is made once and used again. */
    private static final class Shelf {
        final long[] elements = new long[MOST_ELEMENTS];
        int size;
        int sort = NONE;
        int place = NONE;

        boolean holdsRow() {
            return sort != NONE;
        }

        boolean holdsPlace() {
            return place != NONE;
        }

        void takeRow(int newSort, int n) {
            place = NONE;
            sort = newSort;
            size = n;
            Arrays.fill(elements, 0L);
        }

        void takePlace(int newPlace) {
            place = newPlace;
            sort = NONE;
            size = 0;
        }

        boolean hasElements(int i, int n) {
            return i >= 0 && n >= 0 && i <= size && n <= size - i;
        }

        long at(int i) {
            return i >= 0 && i < size ? elements[i] : 0L;
        }

        int asInt(int i) {
            return i >= 0 && i < size ? (int) elements[i] : 0;
        }

        void put(int i, long v) {
            if (hasElements(i, 1)) {
                elements[i] = kept(v);
            }
        }

        private long kept(long v) {
            switch (sort) {
                case BYTES:
                    return (byte) v;
                case SHORTS:
                    return (short) v;
                case INTS:
                    return (int) v;
                default:
                    return v;
            }
        }
    }

    /** All that THE IMAGE holds: PLACES, ROADS, FLOUR, WIND, SEED. */
    private static final class Land {
        final int[] kinds = new int[MOST_PLACES];
        final int[] marks = new int[MOST_PLACES];
        final int[] roads = new int[MOST_PLACES * MOST_PLACES];
        int count;
        int flour;
        int wind;
        int seed = 1;

        void becomeAs(Land other) {
            System.arraycopy(other.kinds, 0, kinds, 0, MOST_PLACES);
            System.arraycopy(other.marks, 0, marks, 0, MOST_PLACES);
            System.arraycopy(other.roads, 0, roads, 0, MOST_PLACES * MOST_PLACES);
            count = other.count;
            flour = other.flour;
            wind = other.wind;
            seed = other.seed;
        }

        boolean has(int p) {
            return p >= 0 && p < count;
        }

        boolean hasBoth(int p, int q) {
            return p >= 0 && p < count && q >= 0 && q < count;
        }

        boolean hasRoom() {
            return count < MOST_PLACES;
        }

        int found(int kind, int a) {
            if (!hasRoom()) {
                return NONE;
            }
            kinds[count] = kind;
            marks[count] = a;
            count++;
            return count - 1;
        }

        /** Whether a PLACE is of a KIND, or of one under it. */
        boolean isOf(int p, int kind) {
            int k = p >= 0 && p < count ? kinds[p] : NONE;
            for (int level = 0; level < 3 && k >= 0 && k < KIND_ABOVE.length; level++) {
                if (k == kind) {
                    return true;
                }
                k = KIND_ABOVE[k];
            }
            return false;
        }

        /** MILES of the ROAD, 0 for none: also of what is no PLACE, and of one PLACE with itself. */
        int between(int p, int q) {
            return p >= 0 && p < count && q >= 0 && q < count ? roads[p * MOST_PLACES + q] : 0;
        }

        void lay(int p, int q, int n) {
            if (hasBoth(p, q) && p != q) {
                roads[p * MOST_PLACES + q] = n;
                roads[q * MOST_PLACES + p] = n;
            }
        }

        int neighbours(int p) {
            int bits = 0;
            for (int q = 0; q < count; q++) {
                if (between(p, q) != 0) {
                    bits |= 1 << q;
                }
            }
            return bits;
        }

        int milesOf(int p) {
            int sum = 0;
            for (int q = 0; q < count; q++) {
                sum += between(p, q);
            }
            return sum;
        }

        int countRoads() {
            int ends = 0;
            for (int p = 0; p < count; p++) {
                ends += Integer.bitCount(neighbours(p));
            }
            return ends / 2;
        }

        int allMiles() {
            int twice = 0;
            for (int p = 0; p < count; p++) {
                twice += milesOf(p);
            }
            return twice / 2;
        }

        /** What a PLACE asks for a spreading of n MILES. */
        int asks(int p, int n) {
            if (p < 0 || p >= count) {
                return 0;
            }
            int paid = n - n / 10;
            switch (kinds[p]) {
                case HILL:
                    return 2 * n;
                case PEAK:
                    return 3 * n;
                case MARSH:
                    return n + marks[p];
                case BOG:
                    return 2 * n + marks[p];
                case TOWN:
                    return paid;
                case CITY:
                    return paid < 1 ? 0 : paid - 1;
                default:
                    return n;
            }
        }

        int costOf(int p, int q, int n) {
            return Math.max(asks(p, n), asks(q, n));
        }

        int yieldOf(int p, int q) {
            int pinches = between(p, q);
            if (isOf(p, HILL) || isOf(q, HILL)) {
                pinches -= pinches / 4;
            }
            if (isOf(p, MARSH) || isOf(q, MARSH)) {
                pinches /= 2;
            }
            return pinches;
        }

        void grindRoad(int p, int q) {
            flour = Math.min(MOST_FLOUR, flour + yieldOf(p, q));
            lay(p, q, 0);
        }

        /** Whether NEAR (n below 0) or FAR (n above 0) MAY be. */
        boolean mayPinch(int p, int q, int n) {
            int miles = between(p, q);
            if (miles == 0 || n == 0 || n < -MOST_PINCH || n > MOST_PINCH) {
                return false;
            }
            return miles + n >= 1 && miles + n <= MOST_MILES && costOf(p, q, Math.abs(n)) <= flour;
        }

        void pinch(int p, int q, int n) {
            flour -= costOf(p, q, Math.abs(n));
            lay(p, q, between(p, q) + n);
        }

        /** A pinch of a JOURNEY: free, and at the bounds it leaves these. */
        void bend(int p, int q, int n) {
            long miles = (long) between(p, q) + n;
            lay(p, q, (int) Math.max(1L, Math.min(MOST_MILES, miles)));
        }

        int draw(int below) {
            seed = seed * 1_103_515_245 + 12_345;
            return below < 1 ? 0 : (seed >>> 16) % below;
        }

        /** One draw of a GALE: how many MILES more. */
        int gust() {
            int p = draw(count);
            int q = draw(count);
            int had = between(p, q);
            if (had == 0) {
                return 0;
            }
            int drawn = draw(wind + 1);
            flour = Math.max(0, flour - drawn);
            lay(p, q, Math.min(MOST_MILES, had + drawn));
            return between(p, q) - had;
        }

        /** KEEP: each turn joins the PLACE that costs least, or begins another set where no ROAD leads on. */
        int leastMilesThatKeep() {
            int joined = 0;
            int sum = 0;
            for (int turn = 0; turn < count; turn++) {
                int best = NONE;
                int least = 0;
                for (int q = 0; q < count; q++) {
                    if ((joined >> q & 1) == 0) {
                        int miles = leastMilesFrom(joined, q);
                        if (best == NONE || (miles != 0 && (least == 0 || miles < least))) {
                            best = q;
                            least = miles;
                        }
                    }
                }
                joined |= best == NONE ? 0 : 1 << best;
                sum += least;
            }
            return sum;
        }

        private int leastMilesFrom(int joined, int q) {
            int least = 0;
            for (int p = 0; p < count; p++) {
                int miles = between(p, q);
                if ((joined >> p & 1) != 0 && miles != 0 && (least == 0 || miles < least)) {
                    least = miles;
                }
            }
            return least;
        }
    }

    /** A length for each two, NO_WAY where there is none. */
    private static final class Lengths {
        final int[] cells = new int[MOST_PLACES * MOST_PLACES];
        int count;

        void measure(Land land) {
            takeRoads(land);
            close();
        }

        void measureWithout(Land land, int p, int q) {
            takeRoads(land);
            note(p, q, NO_WAY);
            close();
        }

        void measureTable(Shelf table, int places) {
            count = places;
            for (int p = 0; p < count; p++) {
                note(p, p, 0);
                for (int q = p + 1; q < count; q++) {
                    note(p, q, table.asInt(pairOf(p, q, count)));
                }
            }
            close();
        }

        private void takeRoads(Land land) {
            count = land.count;
            for (int p = 0; p < count; p++) {
                note(p, p, 0);
                for (int q = p + 1; q < count; q++) {
                    int miles = land.between(p, q);
                    note(p, q, miles == 0 ? NO_WAY : miles);
                }
            }
        }

        private void note(int p, int q, int length) {
            if (isInside(p, q)) {
                cells[p * MOST_PLACES + q] = length;
                cells[q * MOST_PLACES + p] = length;
            }
        }

        private boolean isInside(int p, int q) {
            return p >= 0 && p < count && q >= 0 && q < count;
        }

        /** Behind turn r each length is the least by way of PLACES up to r. */
        private void close() {
            int places = Math.min(count, MOST_PLACES);
            for (int r = 0; r < places; r++) {
                for (int p = 0; p < places; p++) {
                    int first = cells[p * MOST_PLACES + r];
                    for (int q = p + 1; q < places && first < NO_WAY; q++) {
                        int by = first + cells[r * MOST_PLACES + q];
                        if (by < cells[p * MOST_PLACES + q]) {
                            cells[p * MOST_PLACES + q] = by;
                            cells[q * MOST_PLACES + p] = by;
                        }
                    }
                }
            }
        }

        int length(int p, int q) {
            return isInside(p, q) ? cells[p * MOST_PLACES + q] : NO_WAY;
        }

        boolean joins(int p, int q) {
            return length(p, q) < NO_WAY;
        }

        int lengthOrNone(int p, int q) {
            return joins(p, q) ? length(p, q) : NONE;
        }

        /** What a walk from one to another by the ROAD of p and q has beside that ROAD, at least. */
        int lengthBeside(int from, int to, int p, int q) {
            return Math.min(length(from, p) + length(q, to), length(from, q) + length(p, to));
        }

        /** The first PLACE behind at on SHORTEST; at itself if there is none. */
        int nextOnTheWay(Land land, int at, int to) {
            for (int q = 0; q < count; q++) {
                int miles = land.between(at, q);
                if (miles != 0 && miles + length(q, to) == length(at, to)) {
                    return q;
                }
            }
            return at;
        }

        int reach(int p, int d) {
            int bits = 0;
            for (int q = 0; q < count; q++) {
                if (length(p, q) <= d) {
                    bits |= 1 << q;
                }
            }
            return bits;
        }

        int total() {
            int sum = 0;
            for (int p = 0; p < count; p++) {
                for (int q = p + 1; q < count; q++) {
                    sum += length(p, q);
                }
            }
            return sum;
        }

        /** Each set is counted at its first PLACE. */
        int parts() {
            int sets = 0;
            for (int p = 0; p < count; p++) {
                int before = (1 << p) - 1;
                if ((reach(p, MOST_WALK) & before) == 0) {
                    sets++;
                }
            }
            return sets;
        }

        int middle() {
            int best = NONE;
            int nearest = 0;
            for (int p = 0; p < count; p++) {
                int farthest = 0;
                for (int q = 0; q < count; q++) {
                    farthest = Math.max(farthest, length(p, q));
                }
                if (best == NONE || farthest < nearest) {
                    best = p;
                    nearest = farthest;
                }
            }
            return best;
        }

        int greatest() {
            int most = 0;
            for (int p = 0; p < count; p++) {
                for (int q = p + 1; q < count; q++) {
                    most = Math.max(most, lengthOrNone(p, q));
                }
            }
            return most;
        }
    }

    /** Reads a MAP over a Land, which is left half told behind a FAULT. */
    private static final class MapReader {
        private static final int PLACE_WORD = 0;
        private static final int ROAD_WORD = 1;
        private static final int MILL_WORD = 2;
        private static final int FLOUR_WORD = 3;
        private static final int WIND_WORD = 4;
        private static final int NEAR_WORD = 5;
        /** How many NUMBERS stand behind each word. */
        private static final int[] NUMBERS = {2, 3, 2, 1, 1, 3, 3};
        private static final int MOST_DIGITS = 5;

        int fault = NONE;
        private final int[] numbers = new int[3];
        private int next;
        private int numberStart;

        /** How many ITEMS, up to the FAULT. */
        int read(Shelf text, Land over) {
            fault = NONE;
            next = 0;
            int items = 0;
            while (items <= MOST_ELEMENTS && readItem(text, over)) {
                items++;
                if (next >= text.size) {
                    return items;
                }
                if (text.asInt(next) != ';') {
                    fault = next;
                    return items;
                }
                next++;
            }
            return items;
        }

        private boolean readItem(Shelf text, Land over) {
            int start = next;
            int word = readWord(text);
            if (word < 0 || word >= NUMBERS.length) {
                return false;
            }
            if (word == PLACE_WORD && !over.hasRoom()) {
                fault = start;
                return false;
            }
            for (int i = 0; i < NUMBERS[word] && i < numbers.length; i++) {
                if (!readNumber(text, i)) {
                    return false;
                }
                if (!stands(word, i, over)) {
                    fault = numberStart;
                    return false;
                }
            }
            tell(word, over);
            return true;
        }

        /** No word begins another, so the first that is whole is the one; else the letter none goes on with fails. */
        private int readWord(Shelf text) {
            int farthest = 0;
            for (int w = 0; w < NUMBERS.length; w++) {
                String word = wordOf(w);
                int same = sameLetters(text, word);
                if (same == word.length()) {
                    next += same;
                    return w;
                }
                farthest = Math.max(farthest, same);
            }
            fault = next + farthest;
            return NONE;
        }

        private int sameLetters(Shelf text, String word) {
            int same = 0;
            while (same < word.length() && next + same < text.size && text.asInt(next + same) == word.charAt(same)) {
                same++;
            }
            return same;
        }

        private static String wordOf(int w) {
            switch (w) {
                case PLACE_WORD:
                    return "place";
                case ROAD_WORD:
                    return "road";
                case MILL_WORD:
                    return "mill";
                case FLOUR_WORD:
                    return "flour";
                case WIND_WORD:
                    return "wind";
                case NEAR_WORD:
                    return "near";
                default:
                    return "far";
            }
        }

        /** A blank and the i-th NUMBER behind it. */
        private boolean readNumber(Shelf text, int i) {
            if (next >= text.size || text.asInt(next) != ' ') {
                fault = next;
                return false;
            }
            next++;
            numberStart = next;
            int digits = 0;
            int number = 0;
            while (digits < MOST_DIGITS && isDigit(text, next)) {
                number = number * 10 + text.asInt(next) - '0';
                digits++;
                next++;
            }
            if (digits == 0) {
                fault = next;
                return false;
            }
            numbers[i] = number;
            return true;
        }

        private static boolean isDigit(Shelf text, int i) {
            int sign = text.asInt(i);
            return sign >= '0' && sign <= '9';
        }

        /** Whether the i-th NUMBER behind a word may be, those ahead of it being so. */
        private boolean stands(int word, int i, Land over) {
            int number = numbers[i];
            switch (word) {
                case PLACE_WORD:
                    return number <= (i == 0 ? CITY : MOST_A);
                case FLOUR_WORD:
                    return number <= MOST_FLOUR;
                case WIND_WORD:
                    return number <= MOST_WIND;
                default:
                    break;
            }
            if (i == 0) {
                return over.has(number);
            }
            if (i == 1) {
                boolean canBeMilled = over.between(numbers[0], number) != 0;
                return over.has(number) && number != numbers[0] && (word != MILL_WORD || canBeMilled);
            }
            if (word == ROAD_WORD) {
                return number >= 1 && number <= MOST_MILES;
            }
            return over.mayPinch(numbers[0], numbers[1], word == NEAR_WORD ? -number : number);
        }

        private void tell(int word, Land over) {
            switch (word) {
                case PLACE_WORD:
                    over.found(numbers[0], numbers[1]);
                    break;
                case ROAD_WORD:
                    over.lay(numbers[0], numbers[1], numbers[2]);
                    break;
                case MILL_WORD:
                    over.grindRoad(numbers[0], numbers[1]);
                    break;
                case FLOUR_WORD:
                    over.flour = numbers[0];
                    break;
                case WIND_WORD:
                    over.wind = numbers[0];
                    break;
                case NEAR_WORD:
                    over.pinch(numbers[0], numbers[1], -numbers[2]);
                    break;
                default:
                    over.pinch(numbers[0], numbers[1], numbers[2]);
                    break;
            }
        }
    }

    /** Runs the bodies of an ACT and keeps THE TRACE. A body's tens, less one, are its KIND. */
    private static final class Doer {
        private static final int GRINDS = 0;
        private static final int STREWS = 1;
        private static final int BLOWS = 2;
        /** Far above the seven bodies that stand open at once in a CITY that blows. */
        private static final int DEEPEST = 40;
        /** By KIND, three each: grinds, strews, blows; 0 where the KIND above is asked. */
        private static final int[] BODIES = {
            10, 11, 12, 20, 0, 0, 0, 30, 0, 0, 40, 0, 51, 0, 50, 0, 0, 60, 70, 71, 0
        };

        final int[] trace = new int[MOST_TRACE];
        int ran;
        private int kind;
        private int m;
        private int k;

        void forget() {
            ran = 0;
        }

        int traced(int i) {
            return i >= 0 && i < ran && i < MOST_TRACE ? trace[i] : NONE;
        }

        int perform(int ofKind, int number, int a, int act, int x) {
            kind = ofKind;
            m = number;
            k = a;
            return run(this, kind, act, x, 0);
        }

        private static int bodyFrom(int from, int act) {
            int of = from;
            for (int level = 0; level < 3 && isKind(of); level++) {
                int i = 3 * of + act;
                if (i >= 0 && i < BODIES.length && BODIES[i] != 0) {
                    return BODIES[i];
                }
                of = kindAbove(of);
            }
            return 0;
        }

        private void noteBody(int body) {
            if (ran < MOST_TRACE) {
                trace[ran] = body;
            }
            ran++;
        }

        /** An ACT by the body of the KIND from, or the next above that has one. */
        private static int run(Doer by, int from, int act, int x, int depth) {
            int body = bodyFrom(from, act);
            if (body == 0 || depth > DEEPEST) {
                return 0;
            }
            by.noteBody(body);
            int above = kindAbove(body / 10 - 1);
            int deeper = depth + 1;
            switch (body) {
                case 10:
                    return x + by.m;
                case 11:
                    return run(by, by.kind, GRINDS, x, deeper) * 2;
                case 12:
                    return run(by, by.kind, STREWS, x, deeper) ^ run(by, by.kind, GRINDS, x - by.k, deeper);
                case 20:
                    return run(by, above, GRINDS, x, deeper) + by.k;
                case 30:
                    return run(by, above, STREWS, x, deeper) * 3;
                case 40:
                    return run(by, above, STREWS, x + 1, deeper);
                case 50:
                    return -run(by, above, BLOWS, x, deeper);
                case 51:
                    return run(by, above, GRINDS, x, deeper) - by.m;
                case 60:
                    return run(by, above, BLOWS, x, deeper) ^ 5;
                case 70:
                    return run(by, above, GRINDS, x, deeper) * 2;
                default:
                    return run(by, above, STREWS, x - by.k, deeper);
            }
        }
    }
}
