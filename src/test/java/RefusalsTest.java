/** A new object, and what is refused: it answers as told and changes nothing. Every promise that can refuse. */
public final class RefusalsTest {
    private static final Checks CHECKS = new Checks("RefusalsTest");
    private static final int[] NO_PLACES = {-1, 8, Integer.MIN_VALUE, Integer.MAX_VALUE};

    public static void main(String[] args) {
        newObject();
        draft();
        for (int place : NO_PLACES) {
            noSuchPlace(place);
        }
        noSuchIndex();
        unlikeSizes();
        aliases();
        beyondAlike();
        CHECKS.end();
    }

    private static void newObject() {
        SignBench x = new SignBench();
        for (int place = 0; place <= 7; place++) {
            CHECKS.due("size", x.size(place), 1);
            CHECKS.due("at", x.at(place, 0, 0), 1);
            CHECKS.due("sum", x.sum(place, 1, 1), 1);
            CHECKS.due("triangle", x.triangle(place, 1, 0), 0);
        }
        CHECKS.due("fault", x.fault(), 100);
        CHECKS.due("take", x.take(0), false);
        CHECKS.due("put(0, 1, 1)", x.put(0, 1, 1), false);
        CHECKS.due("put(1, 0, 1)", x.put(1, 0, 1), false);
        CHECKS.due("put(0, 0, 1)", x.put(0, 0, 1), true);
        CHECKS.due("fault", x.fault(), 0);
        CHECKS.due("take", x.take(0), true);
        CHECKS.due("NONE", SignBench.NONE, -1);
        for (int place = 0; place <= 7; place++) {
            // No step leaves the only table of 1.
            CHECKS.due("step", x.step(place, 1, 1, true), false);
            CHECKS.due("step", x.step(place, 1, 1, false), false);
            CHECKS.due("turn", x.turn(place), true);
            CHECKS.due("number", x.number(place), 0);
        }
    }

    private static void draft() {
        SignBench x = new SignBench();
        CHECKS.due("begin(0, 2)", x.begin(0, 2), true);
        fillOrder(x);
        for (int sort : new int[] {-1, 3, Integer.MIN_VALUE, Integer.MAX_VALUE}) {
            CHECKS.due("begin(" + sort + ", 2)", x.begin(sort, 2), false);
        }
        for (int n : new int[] {0, -1, 11, Integer.MIN_VALUE, Integer.MAX_VALUE}) {
            CHECKS.due("begin(1, " + n + ")", x.begin(1, n), false);
        }
        for (int far : new int[] {-1, 2, Integer.MIN_VALUE, Integer.MAX_VALUE}) {
            CHECKS.due("put(" + far + ", 0, 1)", x.put(far, 0, 1), false);
            CHECKS.due("put(0, " + far + ", 1)", x.put(0, far, 1), false);
        }
        CHECKS.due("the draft stays", x.fault(), 0);
        for (int place : NO_PLACES) {
            CHECKS.due("take(" + place + ")", x.take(place), false);
        }
        CHECKS.due("take(3)", x.take(3), true);
        CHECKS.due("the draft stays", x.fault(), 0);
        CHECKS.due("take(4)", x.take(4), true);
        CHECKS.due("put(0, 0, 2)", x.put(0, 0, 2), true);
        CHECKS.due("fault", x.fault(), 100);
        CHECKS.due("take(5)", x.take(5), false);
        CHECKS.due("size(5)", x.size(5), 1);
        CHECKS.due("at(3, 0, 0)", x.at(3, 0, 0), 1);
        CHECKS.due("begin clears", x.begin(0, 2), true);
        CHECKS.due("fault", x.fault(), 100);
        columnsAfterRows(x);
        cornerSums(x);
        triangles(x);
    }

    private static void fillOrder(SignBench x) {
        CHECKS.due("put(0, 0, 1)", x.put(0, 0, 1), true);
        CHECKS.due("fault", x.fault(), 101);
        CHECKS.due("put(1, 1, 1)", x.put(1, 1, 1), true);
        CHECKS.due("fault", x.fault(), 0);
    }

    private static void columnsAfterRows(SignBench x) {
        CHECKS.due("begin(0, 3)", x.begin(0, 3), true);
        for (int i = 0; i < 3; i++) {
            x.put(i, 0, 1);
        }
        CHECKS.due("column 0 is wrong", x.fault(), 200);
        x.put(1, 0, 0);
        x.put(1, 1, 1);
        x.put(2, 0, 0);
        x.put(2, 1, 1);
        CHECKS.due("column 1 is wrong", x.fault(), 201);
        x.put(0, 2, -1);
        CHECKS.due("a row ends in -1", x.fault(), 100);
        x.put(0, 1, -1);
        x.put(0, 2, 1);
        CHECKS.due("column 1 begins with -1", x.fault(), 201);
        x.put(1, 1, 2);
        CHECKS.due("a row has a 2", x.fault(), 101);
    }

    private static void cornerSums(SignBench x) {
        CHECKS.due("begin(1, 1)", x.begin(1, 1), true);
        CHECKS.due("C(1, 1) is 1", x.fault(), 1101);
        x.put(1, 1, 1);
        CHECKS.due("C is right", x.fault(), 0);
        x.put(0, 1, 1);
        CHECKS.due("C(0, 1) is 0", x.fault(), 1001);
        x.put(0, 0, Integer.MIN_VALUE);
        CHECKS.due("C(0, 0) is 0", x.fault(), 1000);
        CHECKS.due("begin(1, 10)", x.begin(1, 10), true);
        for (int i = 0; i <= 10; i++) {
            for (int j = 0; j <= 10; j++) {
                x.put(i, j, Math.min(i, j));
            }
        }
        CHECKS.due("C is right", x.fault(), 0);
        CHECKS.due("take(0)", x.take(0), true);
        CHECKS.due("number(0)", x.number(0), 0);
        x.put(10, 10, 11);
        CHECKS.due("C(10, 10) is 10", x.fault(), 2010);
        x.put(5, 5, 6);
        CHECKS.due("C(5, 5) is too much", x.fault(), 1505);
        x.put(4, 0, 1);
        CHECKS.due("C(4, 0) is 0", x.fault(), 1400);
        CHECKS.due("put(11, 0, 0)", x.put(11, 0, 0), false);
        CHECKS.due("put(0, 11, 0)", x.put(0, 11, 0), false);
        CHECKS.due("put(-1, 0, 0)", x.put(-1, 0, 0), false);
        CHECKS.due("put(0, -1, 0)", x.put(0, -1, 0), false);
    }

    private static void triangles(SignBench x) {
        CHECKS.due("begin(2, 1)", x.begin(2, 1), true);
        CHECKS.due("the triangle of 1", x.fault(), 0);
        x.put(1, 0, 1);
        CHECKS.due("no such column", x.fault(), 1100);
        x.put(1, 0, -1);
        CHECKS.due("no such column", x.fault(), 1100);
        CHECKS.due("put(0, 0, 0)", x.put(0, 0, 0), false);
        CHECKS.due("put(1, -1, 0)", x.put(1, -1, 0), false);
        CHECKS.due("put(1, 1, 0)", x.put(1, 1, 0), false);
        CHECKS.due("put(2, 0, 0)", x.put(2, 0, 0), false);
        CHECKS.due("begin(2, 3)", x.begin(2, 3), true);
        x.put(1, 0, 0);
        x.put(2, 0, 1);
        x.put(2, 1, 2);
        CHECKS.due("at most the one above", x.fault(), 1200);
        x.put(1, 0, 2);
        x.put(2, 0, 0);
        x.put(2, 1, 1);
        CHECKS.due("not lower than the one ahead above", x.fault(), 1201);
        CHECKS.due("begin(2, 10)", x.begin(2, 10), true);
        for (int i = 1; i <= 10; i++) {
            for (int j = 0; j < i; j++) {
                x.put(i, j, 10 - i + j);
            }
        }
        CHECKS.due("the last triangle", x.fault(), 0);
        CHECKS.due("take(0)", x.take(0), true);
        CHECKS.due("number(0)", x.number(0), x.count(10) - 1);
        x.put(10, 9, 10);
        CHECKS.due("no such column", x.fault(), 2009);
    }

    private static void noSuchPlace(int place) {
        SignBench x = new SignBench();
        String at = " of place " + place;
        CHECKS.due("size" + at, x.size(place), -1);
        CHECKS.due("at" + at, x.at(place, 0, 0), -1);
        CHECKS.due("sum" + at, x.sum(place, 0, 0), -1);
        CHECKS.due("triangle" + at, x.triangle(place, 1, 0), -1);
        CHECKS.due("arrow" + at, x.arrow(place, true, 0, 0), -1);
        CHECKS.due("held" + at, x.held(place, true, 0, 0), -1);
        CHECKS.due("link" + at, x.link(place, 0), -1);
        CHECKS.due("rings" + at, x.rings(place), -1);
        CHECKS.due("kind" + at, x.kind(place), -1);
        CHECKS.due("less" + at, x.less(place), -1);
        CHECKS.due("number" + at, x.number(place), -1);
        CHECKS.due("of" + at, x.of(place, 1, 0), false);
        CHECKS.due("draw" + at, x.draw(place, 1, 0), -1);
        CHECKS.due("both" + at, x.both(place, 0, 0), false);
        CHECKS.due("both" + at, x.both(0, place, 0), false);
        CHECKS.due("both" + at, x.both(0, 0, place), false);
        CHECKS.due("either" + at, x.either(place, 0, 0), false);
        CHECKS.due("either" + at, x.either(0, place, 0), false);
        CHECKS.due("either" + at, x.either(0, 0, place), false);
        CHECKS.due("below" + at, x.below(place, 0), false);
        CHECKS.due("below" + at, x.below(0, place), false);
        CHECKS.due("below" + at, x.below(place, place), false);
        CHECKS.due("apart" + at, x.apart(place, 0), -1);
        CHECKS.due("apart" + at, x.apart(0, place), -1);
        CHECKS.due("apart" + at, x.apart(place, place), -1);
        CHECKS.due("step" + at, x.step(place, 1, 1, true), false);
        CHECKS.due("toward" + at, x.toward(place, 0), -1);
        CHECKS.due("toward" + at, x.toward(0, place), -1);
        CHECKS.due("turn" + at, x.turn(place), false);
        CHECKS.due("move" + at, x.move(place, 0), false);
        CHECKS.due("alike" + at, x.alike(place), -1);
    }

    private static void noSuchIndex() {
        SignBench x = new SignBench();
        x.of(0, 4, 20);
        for (int far : new int[] {-1, 5, Integer.MIN_VALUE, Integer.MAX_VALUE}) {
            CHECKS.due("at", x.at(0, far, 0), 0);
            CHECKS.due("at", x.at(0, 0, far), 0);
            CHECKS.due("sum", x.sum(0, far, 0), -1);
            CHECKS.due("sum", x.sum(0, 0, far), -1);
            CHECKS.due("triangle", x.triangle(0, far, 0), -1);
            CHECKS.due("triangle", x.triangle(0, 4, far), -1);
            CHECKS.due("step", x.step(0, far, 1, true), false);
            CHECKS.due("step", x.step(0, 1, far, false), false);
            for (boolean level : new boolean[] {true, false}) {
                CHECKS.due("arrow", x.arrow(0, level, far, 0), 0);
                CHECKS.due("arrow", x.arrow(0, level, 0, far), 0);
                CHECKS.due("held", x.held(0, level, far, 0), -1);
                CHECKS.due("held", x.held(0, level, 0, far), -1);
            }
        }
        for (int end : new int[] {-1, 8, Integer.MIN_VALUE, Integer.MAX_VALUE}) {
            CHECKS.due("link", x.link(0, end), -1);
        }
        for (int what : new int[] {-1, 3, Integer.MIN_VALUE, Integer.MAX_VALUE}) {
            CHECKS.due("move", x.move(0, what), false);
        }
        CHECKS.due("triangle row 0", x.triangle(0, 0, 0), -1);
        CHECKS.due("triangle row 2", x.triangle(0, 2, 2), -1);
        CHECKS.due("number stays", x.number(0), 20);
    }

    private static void unlikeSizes() {
        SignBench x = new SignBench();
        x.of(0, 3, 2);
        x.of(1, 4, 2);
        x.of(2, 5, 2);
        CHECKS.due("both", x.both(2, 0, 1), false);
        CHECKS.due("either", x.either(2, 1, 0), false);
        CHECKS.due("below", x.below(0, 1), false);
        CHECKS.due("apart", x.apart(0, 1), -1);
        CHECKS.due("toward", x.toward(0, 1), -1);
        CHECKS.due("toward itself", x.toward(0, 0), -1);
        for (int place = 0; place < 3; place++) {
            CHECKS.due("size stays", x.size(place), 3 + place);
            CHECKS.due("number stays", x.number(place), 2);
        }
    }

    /** A place may be one of the two that it comes from, and its own n before is of no account. */
    private static void aliases() {
        SignBench x = new SignBench();
        x.of(0, 4, 10);
        x.of(1, 4, 30);
        x.of(2, 9, 123456);
        x.both(2, 0, 1);
        x.either(3, 0, 1);
        CHECKS.due("size(2)", x.size(2), 4);
        CHECKS.due("size(3)", x.size(3), 4);
        x.of(4, 4, 10);
        x.of(5, 4, 30);
        CHECKS.due("both(4, 4, 1)", x.both(4, 4, 1), true);
        CHECKS.due("either(5, 0, 5)", x.either(5, 0, 5), true);
        CHECKS.due("apart(4, 2)", x.apart(4, 2), 0);
        CHECKS.due("apart(5, 3)", x.apart(5, 3), 0);
        CHECKS.due("number(0) stays", x.number(0), 10);
        CHECKS.due("number(1) stays", x.number(1), 30);
    }

    private static void beyondAlike() {
        SignBench x = new SignBench();
        for (int n = 6; n <= 10; n++) {
            x.of(0, n, 1);
            CHECKS.due("alike", x.alike(0), -1);
            CHECKS.due("number stays", x.number(0), 1);
        }
        x.of(1, 5, 77);
        x.of(2, 5, 78);
        x.alike(1);
        CHECKS.due("number(1) stays", x.number(1), 77);
        CHECKS.due("number(2) stays", x.number(2), 78);
        CHECKS.due("move after alike", x.move(1, 0), true);
        CHECKS.due("move back", x.move(1, 0), true);
        CHECKS.due("number(1) is back", x.number(1), 77);
    }
}
