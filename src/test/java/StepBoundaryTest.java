/** Promises 22 to 30: a test for each sentence that names a boundary case. */
public final class StepBoundaryTest {
    private static final Checks CHECKS = new Checks("StepBoundaryTest");
    private static final Known KNOWN = new Known(CHECKS);
    private static final int MIN = Integer.MIN_VALUE;
    private static final int MAX = Integer.MAX_VALUE;
    private static final int[] FAR = {-1, -2, 11, 12, 22, 121, MIN, MAX};

    public static void main(String[] args) {
        for (int place : Known.NO_PLACES) {
            noSuchPlace(place);
            noSuchPlaceAndMoreWrong(place);
        }
        unlikeSizes();
        bothAndEitherOfUnlikeTables();
        bothAndEitherOfTablesInOrder();
        bothAndEitherOfOneTable();
        bothAndEitherIntoTheirOwnPlace();
        bothAndEitherOverAnotherSize();
        belowItself();
        belowOneAnother();
        apartFromItself();
        apartAtMost();
        stepAtTheBorder();
        stepBeyond();
        stepThatLeavesNoTable();
        stepThatOneSumForbids();
        stepThereAndBack();
        stepFromTheMiddle();
        towardItself();
        towardAnAlikeOne();
        towardAtTheFirstPlace();
        towardLeavesTheOther();
        towardLongestWay();
        turnOfOne();
        turnMovesTheLastEndToTheFirst();
        turnOfEvenSquaresFirst();
        moveRefused();
        moveOfOne();
        moveWhich();
        moveAndBack();
        alikeOfEachSize();
        alikeRefused();
        CHECKS.end();
    }

    private static void due(String what, long got, long want) {
        CHECKS.due(what, got, want);
    }

    private static void due(String what, boolean got, boolean want) {
        CHECKS.due(what, got, want);
    }

    private static SignBench bench(int n, long... numbers) {
        SignBench x = new SignBench();
        for (int place = 0; place < numbers.length; place++) {
            due("of", x.of(place, n, numbers[place]), true);
        }
        return x;
    }

    // ---- "no such PLACE"

    private static void noSuchPlace(int place) {
        String at = " of place " + place;
        KNOWN.refuses("22: both" + at, x -> x.both(place, 2, 3));
        KNOWN.refuses("22: both" + at, x -> x.both(4, place, 3));
        KNOWN.refuses("22: both" + at, x -> x.both(4, 2, place));
        KNOWN.refuses("22: both" + at, x -> x.both(4, place, place));
        KNOWN.refuses("23: either" + at, x -> x.either(place, 2, 3));
        KNOWN.refuses("23: either" + at, x -> x.either(4, place, 3));
        KNOWN.refuses("23: either" + at, x -> x.either(4, 2, place));
        KNOWN.refuses("23: either" + at, x -> x.either(4, place, place));
        KNOWN.refuses("24: below" + at, x -> x.below(place, 2));
        KNOWN.refuses("24: below" + at, x -> x.below(2, place));
        KNOWN.refuses("24: below" + at, x -> x.below(place, place));
        KNOWN.answers("25: apart" + at, x -> x.apart(place, 2), -1);
        KNOWN.answers("25: apart" + at, x -> x.apart(2, place), -1);
        KNOWN.answers("25: apart" + at, x -> x.apart(place, place), -1);
        KNOWN.refuses("26: step up" + at, x -> x.step(place, 1, 1, true));
        KNOWN.refuses("26: step down" + at, x -> x.step(place, 1, 1, false));
        KNOWN.answers("27: toward" + at, x -> x.toward(place, 2), -1);
        KNOWN.answers("27: toward" + at, x -> x.toward(2, place), -1);
        KNOWN.answers("27: toward" + at, x -> x.toward(place, place), -1);
        KNOWN.refuses("28: turn" + at, x -> x.turn(place));
        for (int what = 0; what <= 2; what++) {
            int of = what;
            KNOWN.refuses("29: move " + what + at, x -> x.move(place, of));
        }
        KNOWN.answers("30: alike" + at, x -> x.alike(place), -1);
    }

    private static void noSuchPlaceAndMoreWrong(int place) {
        KNOWN.refuses("22: both, unlike n too", x -> x.both(place, 2, 4));
        KNOWN.refuses("23: either, unlike n too", x -> x.either(place, 2, 4));
        for (int other : Known.NO_PLACES) {
            KNOWN.refuses("22: both, no place at all", x -> x.both(other, place, place));
            KNOWN.refuses("23: either, no place at all", x -> x.either(place, other, place));
            KNOWN.refuses("24: below, no place at all", x -> x.below(place, other));
            KNOWN.answers("25: apart, no place at all", x -> x.apart(place, other), -1);
            KNOWN.answers("27: toward, no place at all", x -> x.toward(place, other), -1);
            KNOWN.refuses("29: move, nor a what", x -> x.move(place, other == 8 ? 3 : other));
            KNOWN.refuses("26: step, nor a corner sum", x -> x.step(place, other, other, true));
        }
    }

    /** "Unlike n": all pairs of places but 2 and 3, which have one n. */
    private static void unlikeSizes() {
        for (int one = 0; one <= 7; one++) {
            for (int other = 0; other <= 7; other++) {
                if (Known.SIZES[one] != Known.SIZES[other]) {
                    unlikeSizes(one, other);
                }
            }
        }
    }

    private static void unlikeSizes(int a, int b) {
        String of = " of places " + a + ", " + b;
        for (int place : new int[] {a, b, 5}) {
            KNOWN.refuses("22: both" + of, x -> x.both(place, a, b));
            KNOWN.refuses("23: either" + of, x -> x.either(place, a, b));
        }
        KNOWN.refuses("24: below" + of, x -> x.below(a, b));
        KNOWN.answers("25: apart" + of, x -> x.apart(a, b), -1);
        KNOWN.answers("27: toward" + of, x -> x.toward(a, b), -1);
    }

    // ---- 22, 23: both and either

    /** Of n 3, neither of 1 and 2 is below the other, nor of 4 and 5: number 0 is below all, all below 6. */
    private static void bothAndEitherOfUnlikeTables() {
        extremes(3, 1, 2, 0, 3);
        extremes(3, 2, 1, 0, 3);
        extremes(3, 4, 5, 3, 6);
        extremes(3, 5, 4, 3, 6);
    }

    private static void bothAndEitherOfTablesInOrder() {
        extremes(3, 0, 6, 0, 6);
        extremes(3, 6, 0, 0, 6);
        extremes(3, 3, 5, 3, 5);
        extremes(2, 0, 1, 0, 1);
        for (int n = 1; n <= 10; n++) {
            long last = new SignBench().count(n) - 1;
            extremes(n, 0, last, 0, last);
            extremes(n, last / 2, last, last / 2, last);
            extremes(n, 0, last / 3, 0, last / 3);
        }
    }

    private static void bothAndEitherOfOneTable() {
        for (int n = 1; n <= 10; n++) {
            long some = new SignBench().count(n) / 2;
            extremes(n, some, some, some, some);
            SignBench x = bench(n, some);
            due("22: both of one place", x.both(0, 0, 0), true);
            KNOWN.isTable("22: both of one place", x, 0, n, some);
            due("23: either of one place", x.either(0, 0, 0), true);
            KNOWN.isTable("23: either of one place", x, 0, n, some);
        }
    }

    private static void extremes(int n, long a, long b, long both, long either) {
        String of = " of numbers " + a + " and " + b + " of " + n;
        SignBench x = bench(n, a, b);
        due("22: both" + of, x.both(2, 0, 1), true);
        due("23: either" + of, x.either(3, 0, 1), true);
        KNOWN.isTable("22: both" + of, x, 2, n, both);
        KNOWN.isTable("23: either" + of, x, 3, n, either);
        KNOWN.isTable("22, 23: the one stays", x, 0, n, a);
        KNOWN.isTable("22, 23: the other stays", x, 1, n, b);
    }

    private static void bothAndEitherIntoTheirOwnPlace() {
        for (int own = 0; own <= 1; own++) {
            SignBench x = bench(3, 1, 2);
            due("22: both into " + own, x.both(own, 0, 1), true);
            KNOWN.isTable("22: both into " + own, x, own, 3, 0);
            KNOWN.isTable("22: the other stays", x, 1 - own, 3, 2 - own);
            x = bench(3, 1, 2);
            due("23: either into " + own, x.either(own, 0, 1), true);
            KNOWN.isTable("23: either into " + own, x, own, 3, 3);
            KNOWN.isTable("23: the other stays", x, 1 - own, 3, 2 - own);
        }
    }

    /** What n the place had is of no account. */
    private static void bothAndEitherOverAnotherSize() {
        for (int place = 0; place <= 7; place++) {
            if (place != 2 && place != 3) {
                SignBench x = Known.bench(2);
                due("22: both", x.both(place, 2, 3), true);
                KNOWN.isTable("22: both", x, place, 3, 3);
                KNOWN.placesStay("22: both", x, place);
                KNOWN.draftStays("22: both", x, 2);
                x = Known.bench(2);
                due("23: either", x.either(place, 2, 3), true);
                KNOWN.isTable("23: either", x, place, 3, 5);
                KNOWN.placesStay("23: either", x, place);
                KNOWN.draftStays("23: either", x, 2);
            }
        }
    }

    // ---- 24: below

    private static void belowItself() {
        for (int place = 0; place <= 7; place++) {
            int of = place;
            KNOWN.isTrue("24: a table is below itself", x -> x.below(of, of));
        }
        due("24: two alike are below one another", bench(4, 17, 17).below(0, 1), true);
        due("24: two alike are below one another", bench(4, 17, 17).below(1, 0), true);
    }

    private static void belowOneAnother() {
        KNOWN.isTrue("24: number 3 is below number 5", x -> x.below(2, 3));
        KNOWN.refuses("24: number 5 is not below number 3", x -> x.below(3, 2));
        due("24: neither", bench(3, 1, 2).below(0, 1), false);
        due("24: neither", bench(3, 1, 2).below(1, 0), false);
        for (int n = 2; n <= 10; n++) {
            long last = new SignBench().count(n) - 1;
            SignBench x = bench(n, 0, last / 2, last);
            due("24: the first is below all", x.below(0, 1), true);
            due("24: all are below the last", x.below(1, 2), true);
            due("24: the first is below the last", x.below(0, 2), true);
            due("24: the last is not below the first", x.below(2, 0), false);
        }
    }

    // ---- 25: apart

    private static void apartFromItself() {
        for (int place = 0; place <= 7; place++) {
            int of = place;
            KNOWN.answers("25: apart from itself", x -> x.apart(of, of), 0);
        }
        due("25: two alike", bench(5, 301, 301).apart(0, 1), 0);
        KNOWN.answers("25: one step apart", x -> x.apart(2, 3), 1);
        KNOWN.answers("25: one step apart, the other way", x -> x.apart(3, 2), 1);
        // C(1, 1) of the one is less, C(2, 2) of the other: steps up and down are both counted.
        due("25: neither below the other", bench(3, 1, 2).apart(0, 1), 2);
    }

    private static void apartAtMost() {
        for (int n = 1; n <= 10; n++) {
            SignBench x = bench(n, 0, new SignBench().count(n) - 1);
            due("25: the first and the last of " + n, x.apart(0, 1), n * (n * n - 1) / 6);
            due("25: the last and the first of " + n, x.apart(1, 0), n * (n * n - 1) / 6);
        }
    }

    // ---- 26: step

    private static void stepAtTheBorder() {
        for (int place = 0; place <= 7; place++) {
            int n = Known.SIZES[place];
            for (int k = 0; k <= n; k++) {
                noStep(place, 0, k);
                noStep(place, k, 0);
                noStep(place, n, k);
                noStep(place, k, n);
            }
        }
    }

    private static void stepBeyond() {
        for (int place = 0; place <= 7; place++) {
            int n = Known.SIZES[place];
            noStep(place, n + 1, 1);
            noStep(place, 1, n + 1);
            for (int far : FAR) {
                noStep(place, far, 1);
                noStep(place, 1, far);
                noStep(place, far, far);
            }
        }
    }

    private static void noStep(int place, int i, int j) {
        String at = " at (" + i + ", " + j + ") of place " + place;
        KNOWN.refuses("26: step up" + at, x -> x.step(place, i, j, true));
        KNOWN.refuses("26: step down" + at, x -> x.step(place, i, j, false));
    }

    private static void stepThatLeavesNoTable() {
        for (int n = 2; n <= 10; n++) {
            long last = new SignBench().count(n) - 1;
            for (int i = 1; i < n; i++) {
                SignBench x = bench(n, 0, last);
                for (int j = 1; j < n; j++) {
                    due("26: no sum of the first table can be more", x.step(0, i, j, true), false);
                    due("26: no sum of the last table can be less", x.step(1, i, j, false), false);
                    if (i != j) {
                        due("26: off the line of its ones none can be less", x.step(0, i, j, false), false);
                    }
                    if (i + j != n) {
                        due("26: off the line of its ones none can be more", x.step(1, i, j, true), false);
                    }
                }
                KNOWN.isTable("26: the first table stays", x, 0, n, 0);
                KNOWN.isTable("26: the last table stays", x, 1, n, last);
            }
        }
    }

    /** In each of these tables of 3 all but one of the four sums beside it would let it change. */
    private static void stepThatOneSumForbids() {
        forbidden("above", 5, 2, 2, true);
        forbidden("left", 4, 2, 2, true);
        forbidden("right", 5, 1, 1, true);
        forbidden("below", 4, 1, 1, true);
        forbidden("above", 1, 2, 1, false);
        forbidden("left", 1, 1, 2, false);
        forbidden("right", 2, 2, 1, false);
        forbidden("below", 2, 1, 2, false);
    }

    private static void forbidden(String by, long number, int i, int j, boolean up) {
        SignBench x = bench(3, number);
        due("26: the sum " + by + " forbids it", x.step(0, i, j, up), false);
        KNOWN.isTable("26: the sum " + by + " forbids it", x, 0, 3, number);
    }

    private static void stepThereAndBack() {
        for (int n = 2; n <= 10; n++) {
            long last = new SignBench().count(n) - 1;
            for (int i = 1; i < n; i++) {
                SignBench x = bench(n, 0, last);
                due("26: on the line of its ones one can be less", x.step(0, i, i, false), true);
                due("26: by 1", x.sum(0, i, i), i - 1);
                due("26: but not by 2", x.step(0, i, i, false), false);
                due("26: on the line of its ones one can be more", x.step(1, i, n - i, true), true);
                due("26: by 1", x.sum(1, i, n - i), 1);
                due("26: but not by 2", x.step(1, i, n - i, true), false);
                due("26: and back", x.step(0, i, i, true), true);
                due("26: and back", x.step(1, i, n - i, false), true);
                KNOWN.isTable("26: and back", x, 0, n, 0);
                KNOWN.isTable("26: and back", x, 1, n, last);
            }
        }
    }

    /** From the table in the middle of n 3, at each of the places where a sum can change. */
    private static void stepFromTheMiddle() {
        steps(1, 1, true, 1);
        steps(1, 2, false, 5);
        steps(2, 1, false, 4);
        steps(2, 2, true, 2);
    }

    private static void steps(int i, int j, boolean up, long number) {
        SignBench x = Known.bench(1);
        due("26: step the other way", x.step(2, i, j, !up), false);
        due("26: step", x.step(2, i, j, up), true);
        KNOWN.isTable("26: step", x, 2, 3, number);
        KNOWN.placesStay("26: step", x, 2);
        KNOWN.draftStays("26: step", x, 1);
    }

    // ---- 27: toward

    private static void towardItself() {
        for (int place = 0; place <= 7; place++) {
            int of = place;
            KNOWN.answers("27: toward itself", x -> x.toward(of, of), -1);
        }
    }

    private static void towardAnAlikeOne() {
        for (int n = 1; n <= 10; n++) {
            long some = new SignBench().count(n) / 2;
            SignBench x = bench(n, some, some);
            due("27: toward an alike one", x.toward(0, 1), -1);
            KNOWN.isTable("27: it stays", x, 0, n, some);
            KNOWN.isTable("27: the other stays", x, 1, n, some);
        }
    }

    private static void towardAtTheFirstPlace() {
        toward(1, 2, 101);
        toward(2, 1, 101);
        toward(3, 2, 202);
        toward(3, 4, 201);
        toward(3, 5, 102);
        toward(3, 1, 101);
        // All four sums differ, or three, but not all can be changed at once: the first that can.
        toward(0, 6, 101);
        toward(6, 0, 102);
        toward(0, 4, 101);
        toward(4, 0, 201);
        for (int n = 2; n <= 10; n++) {
            SignBench x = bench(n, 0, 0);
            x.step(1, n - 1, n - 1, false);
            due("27: the last place of " + n, x.toward(0, 1), 101 * (n - 1));
            due("27: then they are alike", x.toward(0, 1), -1);
            x.step(1, n - 1, n - 1, true);
            due("27: and back", x.toward(0, 1), 101 * (n - 1));
            due("27: then they are alike", x.apart(0, 1), 0);
        }
    }

    private static void toward(long from, long to, int at) {
        String of = "27: from number " + from + " toward number " + to;
        SignBench x = bench(3, from, to);
        int away = x.apart(0, 1);
        due(of, x.toward(0, 1), at);
        due(of + ", one step less", x.apart(0, 1), away - 1);
        KNOWN.isTable(of + ", the other stays", x, 1, 3, to);
    }

    private static void towardLeavesTheOther() {
        for (int sort = 0; sort <= 2; sort++) {
            SignBench x = Known.bench(sort);
            due("27: toward", x.toward(2, 3), 102);
            KNOWN.isTable("27: it is there", x, 2, 3, 5);
            KNOWN.placesStay("27: toward", x, 2);
            KNOWN.draftStays("27: toward", x, sort);
        }
    }

    private static void towardLongestWay() {
        for (int n = 2; n <= 10; n++) {
            long last = new SignBench().count(n) - 1;
            for (int way = 0; way <= 1; way++) {
                SignBench x = bench(n, 0, last);
                for (int left = n * (n * n - 1) / 6; left > 0; left--) {
                    due("27: still apart", x.apart(way, 1 - way), left);
                    due("27: a step is there", x.toward(way, 1 - way) >= 101, true);
                }
                due("27: no step is left", x.toward(way, 1 - way), -1);
                KNOWN.isTable("27: there", x, way, n, way == 0 ? last : 0);
            }
        }
    }

    // ---- 28: turn

    /** It has no squares. */
    private static void turnOfOne() {
        KNOWN.isTrue("28: turn of n 1", x -> x.turn(0));
        SignBench x = new SignBench();
        due("28: turn of n 1", x.turn(7), true);
        due("28: its ends", x.link(7, 0), 1);
        due("28: its ends", x.link(7, 1), 0);
    }

    private static void turnMovesTheLastEndToTheFirst() {
        for (int place = 0; place <= 7; place++) {
            int ends = 2 * Known.SIZES[place];
            SignBench x = Known.bench(0);
            int[] before = new int[ends];
            for (int end = 0; end < ends; end++) {
                before[end] = x.link(place, end);
            }
            due("28: turn", x.turn(place), true);
            due("28: the last end becomes the first", x.link(place, 0), (before[ends - 1] + 1) % ends);
            for (int end = 1; end < ends; end++) {
                due("28: end " + (end - 1) + " one further", x.link(place, end), (before[end - 1] + 1) % ends);
            }
            KNOWN.placesStay("28: turn", x, place);
            KNOWN.draftStays("28: turn", x, 0);
        }
        // Turned 2 n times the ends are joined as at first.
        SignBench x = bench(5, 123);
        for (int k = 0; k < 10; k++) {
            x.turn(0);
        }
        SignBench at = bench(5, 123);
        for (int end = 0; end < 10; end++) {
            due("28: all the way round", x.link(0, end), at.link(0, end));
        }
    }

    /**
     * In number 0 of 3 only C(1, 1) and C(2, 2) can change, both of even squares; with 0, 1, 1, 1 then
     * both sums of odd squares can: C(1, 2) and C(2, 1) become 0.
     */
    private static void turnOfEvenSquaresFirst() {
        SignBench x = bench(3, 0);
        x.turn(0);
        due("28: C(1, 1)", x.sum(0, 1, 1), 0);
        due("28: C(2, 2)", x.sum(0, 2, 2), 1);
        due("28: C(1, 2)", x.sum(0, 1, 2), 0);
        due("28: C(2, 1)", x.sum(0, 2, 1), 0);
        KNOWN.isTable("28: number 0 of 3", x, 0, 3, 6);
        x.turn(0);
        // The even ones of number 6 can't change, the odd ones can: then it is the table in the middle.
        KNOWN.isTable("28: number 6 of 3", x, 0, 3, 3);
        x.turn(0);
        // All four can change: the even ones do, and then no odd one can.
        KNOWN.isTable("28: number 3 of 3", x, 0, 3, 0);
    }

    // ---- 29: move

    private static void moveRefused() {
        for (int place = 0; place <= 7; place++) {
            int of = place;
            for (int what : new int[] {-1, 3, 4, MIN, MAX}) {
                KNOWN.refuses("29: move(" + place + ", " + what + ")", x -> x.move(of, what));
            }
        }
    }

    private static void moveOfOne() {
        for (int what = 0; what <= 2; what++) {
            int of = what;
            KNOWN.isTrue("29: move " + what + " of n 1", x -> x.move(0, of));
        }
    }

    /** Of 0 1 0, 0 0 1, 1 0 0 (number 4). */
    private static void moveWhich() {
        move(4, 0, 2);
        move(4, 2, 5);
        // Its rows are the columns of the one before, gone up: 1 0 0, 0 0 1, 0 1 0.
        move(4, 1, 1);
        move(1, 1, 5);
        move(1, 0, 5);
        move(1, 2, 1);
    }

    private static void move(long from, int what, long to) {
        SignBench x = Known.bench(2);
        x.of(3, 3, from);
        due("29: move", x.move(3, what), true);
        KNOWN.isTable("29: move " + what + " of number " + from, x, 3, 3, to);
        KNOWN.placesStay("29: move", x, 3);
        KNOWN.draftStays("29: move", x, 2);
    }

    private static void moveAndBack() {
        int[] times = {2, 4, 2};
        for (int place = 0; place <= 7; place++) {
            for (int what = 0; what <= 2; what++) {
                SignBench x = Known.bench(1);
                for (int k = 0; k < times[what]; k++) {
                    due("29: move", x.move(place, what), true);
                }
                KNOWN.stays("29: moved " + times[what] + " times", x, 1);
            }
        }
    }

    // ---- 30: alike

    private static void alikeOfEachSize() {
        due("30: n 1", bench(1, 0).alike(0), 1);
        due("30: n 2", bench(2, 0).alike(0), 1);
        due("30: n 2", bench(2, 1).alike(0), 1);
        int[] ofThree = {1, 2, 2, 1, 2, 2, 1};
        int[] ofFour = {1, 3, 7, 3, 3, 7, 3, 3, 7, 3, 1, 7, 3, 3, 7, 3, 3, 3, 7, 3, 7, 3, 7, 7, 3, 7, 3, 3, 7, 3,
            3, 1, 3, 7, 3, 3, 3, 7, 3, 7, 3, 1};
        int[] ofFive = {1, 4, 17, 6, 4, 17, 6, 17, 42, 14, 4, 42, 14, 17, 17, 6, 4, 6, 17, 6, 17, 17, 42, 42, 17};
        alikeOnes(3, ofThree);
        alikeOnes(4, ofFour);
        alikeOnes(5, ofFive);
        // Going from one n to another and back.
        SignBench x = new SignBench();
        for (int k = 0; k < 3; k++) {
            for (int n = 5; n >= 1; n--) {
                x.of(0, n, 0);
                due("30: the first of each n is alone", x.alike(0), 1);
                x.of(0, n, x.count(n) - 1);
                due("30: the last of each n is alone", x.alike(0), 1);
            }
        }
    }

    private static void alikeOnes(int n, int[] many) {
        SignBench x = new SignBench();
        for (int number = 0; number < many.length; number++) {
            x.of(7, n, number);
            due("30: alike of number " + number + " of " + n, x.alike(7), many[number]);
        }
        KNOWN.isTable("30: it stays", x, 7, n, many.length - 1);
    }

    private static void alikeRefused() {
        KNOWN.answers("30: n 10", x -> x.alike(6), -1);
        KNOWN.answers("30: n 6", x -> x.alike(7), -1);
        KNOWN.answers("30: n 5 changes nothing", x -> Math.min(x.alike(5), 1), 1);
        for (int n = 6; n <= 10; n++) {
            SignBench x = bench(n, 0, new SignBench().count(n) - 1);
            due("30: n " + n, x.alike(0), -1);
            due("30: n " + n, x.alike(1), -1);
        }
    }
}
