/** Counts the answers that are not as due; what the tests share to fill SHELVES. */
final class Due {
    private static int asked = 0;
    private static int wrong = 0;

    private Due() {
    }

    static void due(String call, long got, long want) {
        asked++;
        if (got != want) {
            wrong++;
            if (wrong <= 40) {
                System.out.println(call + " answered " + got + ", due is " + want);
            }
        }
    }

    /** Ends the test's run: with exit code 1 if an answer was not as due. */
    static void end() {
        System.out.println(asked + " answers, " + wrong + " not as due");
        if (wrong != 0 || asked == 0) {
            System.exit(1);
        }
    }

    /** SHELF s holds a ROW with these elements. */
    static void fill(MillOfDistances x, int s, int sort, long... elements) {
        due("row(" + s + ", " + sort + ", " + elements.length + ")", x.row(s, sort, elements.length), 1);
        for (int i = 0; i < elements.length; i++) {
            due("set(" + s + ", " + i + ", " + elements[i] + ")", x.set(s, i, elements[i]), 1);
        }
    }

    /** SHELF s holds a ROW of bytes with these letters. */
    static void text(MillOfDistances x, int s, String letters) {
        long[] elements = new long[letters.length()];
        for (int i = 0; i < elements.length; i++) {
            elements[i] = letters.charAt(i);
        }
        fill(x, s, 0, elements);
    }

    /** A MAP of these letters stands. */
    static void mapStands(MillOfDistances x, String letters, int items) {
        text(x, 7, letters);
        due("map of " + letters, x.map(7), items);
        due("fault behind " + letters, x.fault(), -1);
    }

    /** A MAP of these letters has this FAULT. */
    static void mapFails(MillOfDistances x, String letters, int fault) {
        text(x, 7, letters);
        due("map of " + letters, x.map(7), -6);
        due("fault behind " + letters, x.fault(), fault);
    }

    /** A mill with PLACES of these KINDS, a 0 each. */
    static MillOfDistances millOf(int... kinds) {
        MillOfDistances x = new MillOfDistances();
        for (int i = 0; i < kinds.length; i++) {
            due("place " + i, x.place(kinds[i], 0), i);
        }
        return x;
    }

    /** Lays ROADS: P, Q, MILES each. */
    static void roads(MillOfDistances x, int... told) {
        for (int i = 0; i + 2 < told.length; i += 3) {
            due("road " + told[i] + " " + told[i + 1], x.road(told[i], told[i + 1], told[i + 2]), 0);
        }
    }

    /** How many REFUSALS of each number there were, from -1 on. */
    static void refusals(String when, MillOfDistances x, int... counts) {
        for (int i = 0; i < 7; i++) {
            due("status(" + (11 + i) + ") " + when, x.status(11 + i), i < counts.length ? counts[i] : 0);
        }
    }
}
