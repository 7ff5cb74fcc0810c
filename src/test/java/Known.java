/**
 * A bench whose eight tables and whose draft are known: each call is made on a new one, and then all
 * of it is looked at, so that a call that is refused, or only asks, is seen to change nothing.
 */
final class Known {
    static final int[] NO_PLACES = {-1, 8, Integer.MIN_VALUE, Integer.MAX_VALUE};

    /** Of these 0 is n 1, 6 is n 10, 2 and 3 are of one n, and 2 has a -1. */
    static final int[] SIZES = {1, 2, 3, 3, 4, 5, 10, 6};
    static final long[] NUMBERS = {0, 1, 3, 5, 20, 200, 123456789L, 4000};

    /** The draft tells the table of 3 with number 3: 1 in the middle of each side, -1 within. */
    private static final int[][][] DRAFTS = {
        {{0, 1, 0}, {1, -1, 1}, {0, 1, 0}},
        {{0, 0, 0, 0}, {0, 0, 1, 1}, {0, 1, 1, 2}, {0, 1, 2, 3}},
        {{}, {1}, {0, 2}, {0, 1, 2}}
    };

    interface Asking {
        long of(SignBench x);
    }

    interface Changing {
        boolean of(SignBench x);
    }

    private final Checks checks;

    Known(Checks checks) {
        this.checks = checks;
    }

    /** A new bench with all that is known; the draft is of one sort. */
    static SignBench bench(int sort) {
        SignBench x = new SignBench();
        for (int place = 0; place < SIZES.length; place++) {
            x.of(place, SIZES[place], NUMBERS[place]);
        }
        tell(x, sort);
        return x;
    }

    static void tell(SignBench x, int sort) {
        x.begin(sort, 3);
        for (int i = 0; i < DRAFTS[sort].length; i++) {
            for (int j = 0; j < DRAFTS[sort][i].length; j++) {
                x.put(i, j, DRAFTS[sort][i][j]);
            }
        }
    }

    void answers(String what, Asking call, long due) {
        for (int sort = 0; sort < DRAFTS.length; sort++) {
            SignBench x = bench(sort);
            checks.due(what, call.of(x), due);
            stays(what, x, sort);
        }
    }

    void isTrue(String what, Changing asking) {
        answers(what, x -> asking.of(x) ? 1 : 0, 1);
    }

    void refuses(String what, Changing call) {
        answers(what, x -> call.of(x) ? 1 : 0, 0);
    }

    void stays(String what, SignBench x, int sort) {
        placesStay(what, x, SignBench.NONE);
        draftStays(what, x, sort);
    }

    /** All tables but that of one place. */
    void placesStay(String what, SignBench x, int but) {
        for (int place = 0; place < SIZES.length; place++) {
            if (place != but) {
                isTable(what + ": place " + place + " stays", x, place, SIZES[place], NUMBERS[place]);
            }
        }
    }

    void isTable(String what, SignBench x, int place, int n, long number) {
        checks.due(what + ", its n", x.size(place), n);
        checks.due(what + ", its number", x.number(place), number);
    }

    /** Each number of the draft is told by the table; its sort by what can be put where. */
    void draftStays(String what, SignBench x, int sort) {
        checks.due(what + ": the draft has no fault", x.fault(), 0);
        checks.due(what + ": the draft can be taken", x.take(0), true);
        isTable(what + ": the draft's table", x, 0, 3, 3);
        checks.due(what + ": corner sums alone have (3, 3)", x.put(3, 3, 3), sort == 1);
        checks.due(what + ": a triangle alone lacks (0, 0)", x.put(0, 0, 0), sort != 2);
        checks.due(what + ": no draft of 3 has (0, 4)", x.put(0, 4, 0), false);
    }
}
