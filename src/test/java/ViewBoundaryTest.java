/** Promises 6 to 15: a test for each sentence that names a boundary case. */
public final class ViewBoundaryTest {
    private static final Checks CHECKS = new Checks("ViewBoundaryTest");
    private static final Known KNOWN = new Known(CHECKS);
    private static final int MIN = Integer.MIN_VALUE;
    private static final int MAX = Integer.MAX_VALUE;
    private static final int[] FAR = {-1, -2, 11, 12, 22, 121, MIN, MAX};

    public static void main(String[] args) {
        for (int place : Known.NO_PLACES) {
            noSuchPlace(place);
            noSuchPlaceAndNoSuchIndex(place);
        }
        sizes();
        atBeyond();
        atAfterAGreaterTable();
        sumAtTheEdges();
        sumBeyond();
        triangleAtTheEdges();
        triangleBeyond();
        arrowAtTheEdges();
        edgesBeyond();
        heldOfOuterEdges();
        heldTwoOfFour();
        linkOfFirstAndLastEnd();
        linkBeyond();
        linkThereAndBack();
        ringsNoneAndMany();
        kindFirstThatHolds();
        kindsOfOtherMirrors();
        lessNoneAndMost();
        CHECKS.end();
    }

    private static void due(String what, long got, long want) {
        CHECKS.due(what, got, want);
    }

    /** A new bench with this table in place 0. */
    private static SignBench table(int[]... rows) {
        SignBench x = new SignBench();
        x.begin(0, rows.length);
        for (int i = 0; i < rows.length; i++) {
            for (int j = 0; j < rows.length; j++) {
                x.put(i, j, rows[i][j]);
            }
        }
        CHECKS.due("a table", x.take(0), true);
        return x;
    }

    private static int[] row(int... numbers) {
        return numbers;
    }

    // ---- "NONE: no such PLACE (so for all below)"

    private static void noSuchPlace(int place) {
        String at = " of place " + place;
        KNOWN.answers("6: size" + at, x -> x.size(place), -1);
        KNOWN.answers("7: at" + at, x -> x.at(place, 0, 0), -1);
        KNOWN.answers("8: sum" + at, x -> x.sum(place, 0, 0), -1);
        KNOWN.answers("9: triangle" + at, x -> x.triangle(place, 1, 0), -1);
        KNOWN.answers("10: arrow, level" + at, x -> x.arrow(place, true, 0, 0), -1);
        KNOWN.answers("10: arrow, upright" + at, x -> x.arrow(place, false, 0, 0), -1);
        KNOWN.answers("11: held, level" + at, x -> x.held(place, true, 0, 0), -1);
        KNOWN.answers("11: held, upright" + at, x -> x.held(place, false, 0, 0), -1);
        KNOWN.answers("12: link" + at, x -> x.link(place, 0), -1);
        KNOWN.answers("13: rings" + at, x -> x.rings(place), -1);
        KNOWN.answers("14: kind" + at, x -> x.kind(place), -1);
        KNOWN.answers("15: less" + at, x -> x.less(place), -1);
    }

    private static void noSuchPlaceAndNoSuchIndex(int place) {
        for (int far : FAR) {
            String at = " of place " + place + " at " + far;
            KNOWN.answers("7: at" + at, x -> x.at(place, far, far), -1);
            KNOWN.answers("8: sum" + at, x -> x.sum(place, far, far), -1);
            KNOWN.answers("9: triangle" + at, x -> x.triangle(place, far, far), -1);
            KNOWN.answers("10: arrow" + at, x -> x.arrow(place, true, far, far), -1);
            KNOWN.answers("11: held" + at, x -> x.held(place, false, far, far), -1);
            KNOWN.answers("12: link" + at, x -> x.link(place, far), -1);
        }
    }

    private static void sizes() {
        for (int place = 0; place <= 7; place++) {
            int of = place;
            KNOWN.answers("6: size of place " + place, x -> x.size(of), Known.SIZES[place]);
        }
    }

    // ---- 7: at

    private static void atBeyond() {
        for (int place = 0; place <= 7; place++) {
            int of = place;
            int n = Known.SIZES[place];
            KNOWN.answers("7: at row n", x -> x.at(of, n, 0), 0);
            KNOWN.answers("7: at column n", x -> x.at(of, 0, n), 0);
            KNOWN.answers("7: at row n and column n", x -> x.at(of, n, n), 0);
        }
        for (int far : FAR) {
            for (int place : new int[] {0, 2, 6}) {
                KNOWN.answers("7: at row " + far, x -> x.at(place, far, 0), 0);
                KNOWN.answers("7: at column " + far, x -> x.at(place, 0, far), 0);
                KNOWN.answers("7: at row and column " + far, x -> x.at(place, far, far), 0);
            }
        }
        SignBench x = new SignBench();
        x.of(0, 10, 0);
        due("7: at the first", x.at(0, 0, 0), 1);
        due("7: at the last", x.at(0, 9, 9), 1);
        // Were rows and columns laid out in one line, these would be the ones of the next row.
        due("7: at (0, 10)", x.at(0, 0, 10), 0);
        due("7: at (0, 11)", x.at(0, 0, 11), 0);
        due("7: at (0, 12)", x.at(0, 0, 12), 0);
        due("7: at (2, -10)", x.at(0, 2, -10), 0);
        due("7: at (2, -9)", x.at(0, 2, -9), 0);
    }

    private static void atAfterAGreaterTable() {
        SignBench x = new SignBench();
        x.of(0, 10, 0);
        x.of(0, 2, 1);
        for (int i = 0; i <= 10; i++) {
            for (int j = 0; j <= 10; j++) {
                due("7: at (" + i + ", " + j + ") after a greater table", x.at(0, i, j), i + j == 1 ? 1 : 0);
            }
        }
    }

    // ---- 8: sum

    private static void sumAtTheEdges() {
        for (int place = 0; place <= 7; place++) {
            int of = place;
            int n = Known.SIZES[place];
            for (int k = 0; k <= n; k++) {
                int at = k;
                KNOWN.answers("8: C(0, j)", x -> x.sum(of, 0, at), 0);
                KNOWN.answers("8: C(i, 0)", x -> x.sum(of, at, 0), 0);
                KNOWN.answers("8: C(n, j)", x -> x.sum(of, n, at), k);
                KNOWN.answers("8: C(i, n)", x -> x.sum(of, at, n), k);
            }
        }
    }

    private static void sumBeyond() {
        for (int place = 0; place <= 7; place++) {
            int of = place;
            int n = Known.SIZES[place];
            KNOWN.answers("8: row n + 1", x -> x.sum(of, n + 1, 0), -1);
            KNOWN.answers("8: column n + 1", x -> x.sum(of, 0, n + 1), -1);
            for (int far : FAR) {
                KNOWN.answers("8: row " + far, x -> x.sum(of, far, 0), -1);
                KNOWN.answers("8: column " + far, x -> x.sum(of, 0, far), -1);
                KNOWN.answers("8: row and column " + far, x -> x.sum(of, far, far), -1);
            }
        }
    }

    // ---- 9: triangle

    private static void triangleAtTheEdges() {
        for (int place = 0; place <= 7; place++) {
            int of = place;
            int n = Known.SIZES[place];
            for (int k = 0; k < n; k++) {
                int at = k;
                KNOWN.answers("9: the last row has all columns", x -> x.triangle(of, n, at), k);
            }
        }
        for (int n = 1; n <= 10; n++) {
            for (int i = 1; i <= n; i++) {
                SignBench x = new SignBench();
                x.of(0, n, 0);
                due("9: first of row i, number 0", x.triangle(0, i, 0), 0);
                due("9: last of row i, number 0", x.triangle(0, i, i - 1), i - 1);
                x.of(0, n, x.count(n) - 1);
                due("9: first of row i, last number", x.triangle(0, i, 0), n - i);
                due("9: last of row i, last number", x.triangle(0, i, i - 1), n - 1);
            }
        }
    }

    private static void triangleBeyond() {
        for (int place = 0; place <= 7; place++) {
            int of = place;
            int n = Known.SIZES[place];
            KNOWN.answers("9: row 0", x -> x.triangle(of, 0, 0), -1);
            KNOWN.answers("9: row 0, -1", x -> x.triangle(of, 0, -1), -1);
            KNOWN.answers("9: row n + 1", x -> x.triangle(of, n + 1, 0), -1);
            for (int i = 1; i <= n; i++) {
                int row = i;
                KNOWN.answers("9: the i-th of row i", x -> x.triangle(of, row, row), -1);
                KNOWN.answers("9: -1 of row i", x -> x.triangle(of, row, -1), -1);
            }
            for (int far : FAR) {
                KNOWN.answers("9: row " + far, x -> x.triangle(of, far, 0), -1);
                KNOWN.answers("9: of the last row " + far, x -> x.triangle(of, n, far), -1);
                KNOWN.answers("9: row and column " + far, x -> x.triangle(of, far, far), -1);
            }
        }
    }

    // ---- 10, 11: arrow and held

    private static void arrowAtTheEdges() {
        for (int place = 0; place <= 7; place++) {
            int of = place;
            int n = Known.SIZES[place];
            for (int k = 0; k < n; k++) {
                int at = k;
                KNOWN.answers("10: left of the first column: right", x -> x.arrow(of, true, at, 0), 1);
                KNOWN.answers("10: right of the last column: left", x -> x.arrow(of, true, at, n), -1);
                KNOWN.answers("10: above the first row: up", x -> x.arrow(of, false, 0, at), 1);
                KNOWN.answers("10: below the last row: down", x -> x.arrow(of, false, n, at), -1);
            }
        }
    }

    private static void edgesBeyond() {
        for (int place = 0; place <= 7; place++) {
            int n = Known.SIZES[place];
            noEdge(place, true, n, 0);
            noEdge(place, true, n, n);
            noEdge(place, true, 0, n + 1);
            noEdge(place, true, -1, 0);
            noEdge(place, true, 0, -1);
            noEdge(place, false, n + 1, 0);
            noEdge(place, false, 0, n);
            noEdge(place, false, n, n);
            noEdge(place, false, -1, 0);
            noEdge(place, false, 0, -1);
            for (int far : FAR) {
                for (boolean level : new boolean[] {true, false}) {
                    noEdge(place, level, far, 0);
                    noEdge(place, level, 0, far);
                    noEdge(place, level, far, far);
                }
            }
        }
    }

    private static void noEdge(int place, boolean level, int i, int j) {
        String edge = (level ? "level (" : "upright (") + i + ", " + j + ") of place " + place;
        KNOWN.answers("10: arrow " + edge, x -> x.arrow(place, level, i, j), 0);
        KNOWN.answers("11: held " + edge, x -> x.held(place, level, i, j), -1);
    }

    /** An outer edge has one arrow in all tables, so its place alone tells whether it is held. */
    private static void heldOfOuterEdges() {
        for (int place = 0; place <= 7; place++) {
            int of = place;
            int n = Known.SIZES[place];
            for (int k = 0; k < n; k++) {
                int at = k;
                boolean odd = k % 2 == 1;
                boolean oddWithN = (k + n) % 2 == 1;
                KNOWN.answers("11: above", x -> x.held(of, false, 0, at), odd ? 1 : 0);
                KNOWN.answers("11: right", x -> x.held(of, true, at, n), oddWithN ? 1 : 0);
                KNOWN.answers("11: below", x -> x.held(of, false, n, at), oddWithN ? 0 : 1);
                KNOWN.answers("11: left", x -> x.held(of, true, at, 0), odd ? 0 : 1);
            }
        }
    }

    private static void heldTwoOfFour() {
        for (int place = 0; place <= 7; place++) {
            int of = place;
            int n = Known.SIZES[place];
            for (int cell = 0; cell < n * n; cell++) {
                int i = cell / n;
                int j = cell % n;
                KNOWN.answers("11: two of the four edges of (" + i + ", " + j + ")", x -> x.held(of, true, i, j)
                        + x.held(of, true, i, j + 1) + x.held(of, false, i, j) + x.held(of, false, i + 1, j), 2);
            }
        }
    }

    // ---- 12: link

    /** In the table with number 0 each end is joined to the one as far from the last as it is from the first. */
    private static void linkOfFirstAndLastEnd() {
        for (int n = 1; n <= 10; n++) {
            SignBench x = new SignBench();
            x.of(0, n, 0);
            for (int end = 0; end < 2 * n; end++) {
                due("12: link of end " + end + " of n " + n, x.link(0, end), 2 * n - 1 - end);
            }
            due("12: no end 2 n", x.link(0, 2 * n), -1);
            due("12: no end -1", x.link(0, -1), -1);
        }
        // The four corners of n 2: the ends above and right meet, and those below and left.
        SignBench x = table(row(0, 1), row(1, 0));
        due("12: link(0)", x.link(0, 0), 1);
        due("12: link(1)", x.link(0, 1), 0);
        due("12: link(2)", x.link(0, 2), 3);
        due("12: link(3)", x.link(0, 3), 2);
    }

    private static void linkBeyond() {
        for (int place = 0; place <= 7; place++) {
            int of = place;
            int n = Known.SIZES[place];
            for (int end : new int[] {-1, -2, 2 * n, 2 * n + 1, 4 * n, 40, MIN, MAX}) {
                KNOWN.answers("12: link of end " + end, x -> x.link(of, end), -1);
            }
        }
    }

    private static void linkThereAndBack() {
        for (int place = 0; place <= 7; place++) {
            SignBench x = Known.bench(0);
            for (int end = 0; end < 2 * Known.SIZES[place]; end++) {
                int other = x.link(place, end);
                CHECKS.due("12: another end", other >= 0 && other < 2 * Known.SIZES[place] && other != end, true);
                due("12: and back", x.link(place, other), end);
            }
            KNOWN.stays("12: link", x, 0);
        }
    }

    // ---- 13: rings

    private static void ringsNoneAndMany() {
        for (int n = 1; n <= 3; n++) {
            SignBench x = new SignBench();
            for (int number = 0; number < x.count(n); number++) {
                x.of(0, n, number);
                due("13: n up to 3 has no ring", x.rings(0), 0);
            }
        }
        SignBench x = new SignBench();
        for (int number = 0; number < 42; number++) {
            x.of(0, 4, number);
            due("13: one table of 4 has a ring", x.rings(0), number == 23 ? 1 : 0);
        }
        x = table(row(0, 0, 1, 0), row(1, 0, 0, 0), row(0, 0, 0, 1), row(0, 1, 0, 0));
        due("13: the ring round the middle of 4", x.rings(0), 1);
        due("13: once more", x.rings(0), 1);
        x.turn(0);
        due("13: turned", x.rings(0), 0);
        x.of(0, 10, 45879573337L);
        due("13: many rings of 10", x.rings(0), 8);
        x.of(0, 10, 0);
        due("13: none of 10", x.rings(0), 0);
    }

    // ---- 14: kind

    private static void kindFirstThatHolds() {
        due("14: n 1 is an order", new SignBench().kind(0), 0);
        due("14: an order that a quarter turn leaves",
                table(row(0, 1, 0, 0), row(0, 0, 0, 1), row(1, 0, 0, 0), row(0, 0, 1, 0)).kind(0), 0);
        due("14: an order that half a turn leaves", table(row(0, 1), row(1, 0)).kind(0), 0);
        due("14: a quarter turn and a mirror leave it",
                table(row(0, 1, 0), row(1, -1, 1), row(0, 1, 0)).kind(0), 1);
        due("14: a quarter turn leaves it, no mirror", table(row(0, 0, 0, 1, 0, 0, 0), row(0, 0, 0, 0, 1, 0, 0),
                row(0, 1, 0, 0, 0, 0, 0), row(1, 0, 0, -1, 0, 0, 1), row(0, 0, 0, 0, 0, 1, 0),
                row(0, 0, 1, 0, 0, 0, 0), row(0, 0, 0, 1, 0, 0, 0)).kind(0), 1);
        due("14: half a turn and a mirror leave it, no quarter turn", table(row(0, 0, 0, 0, 1, 0, 0, 0, 0),
                row(0, 0, 0, 1, -1, 1, 0, 0, 0), row(0, 1, 0, -1, 1, -1, 0, 1, 0),
                row(0, 0, 0, 1, -1, 1, 0, 0, 0), row(1, -1, 1, -1, 1, -1, 1, -1, 1),
                row(0, 0, 0, 1, -1, 1, 0, 0, 0), row(0, 1, 0, -1, 1, -1, 0, 1, 0),
                row(0, 0, 0, 1, -1, 1, 0, 0, 0), row(0, 0, 0, 0, 1, 0, 0, 0, 0)).kind(0), 2);
        due("14: half a turn leaves it, no mirror",
                table(row(0, 1, 0, 0), row(1, -1, 1, 0), row(0, 1, -1, 1), row(0, 0, 1, 0)).kind(0), 2);
        due("14: a mirror left to right alone leaves it", table(row(0, 0, 1, 0, 0), row(1, 0, -1, 0, 1),
                row(0, 0, 1, 0, 0), row(0, 1, -1, 1, 0), row(0, 0, 1, 0, 0)).kind(0), 3);
    }

    private static void kindsOfOtherMirrors() {
        due("14: a mirror from above to below alone leaves it", table(row(0, 1, 0, 0, 0), row(0, 0, 0, 1, 0),
                row(1, -1, 1, -1, 1), row(0, 0, 0, 1, 0), row(0, 1, 0, 0, 0)).kind(0), 4);
        due("14: rows become columns alone leaves it",
                table(row(0, 1, 0, 0), row(1, -1, 1, 0), row(0, 1, 0, 0), row(0, 0, 0, 1)).kind(0), 4);
        due("14: nothing leaves it",
                table(row(0, 1, 0, 0), row(0, 0, 1, 0), row(1, 0, -1, 1), row(0, 0, 1, 0)).kind(0), 4);
        KNOWN.answers("14: asking changes nothing", x -> x.kind(2), 1);
        KNOWN.answers("14: asking changes nothing", x -> x.kind(3), 0);
    }

    // ---- 15: less

    private static void lessNoneAndMost() {
        for (int n = 1; n <= 10; n++) {
            SignBench x = new SignBench();
            x.of(0, n, 0);
            due("15: none in number 0", x.less(0), 0);
            x.of(0, n, x.count(n) - 1);
            due("15: none in the last number", x.less(0), 0);
            due("15: the most of n " + n, table(diamond(n)).less(0), (n - 1) * (n - 1) / 4);
        }
        due("15: n 3 has one at most", table(row(0, 1, 0), row(1, -1, 1), row(0, 1, 0)).less(0), 1);
    }

    /** 1 and -1 by turns wherever there can be one. */
    private static int[][] diamond(int n) {
        int[][] rows = new int[n][n];
        for (int i = 0; i < n; i++) {
            int reach = Math.min(i, n - 1 - i);
            int middle = i < n / 2 ? (n - 1) / 2 : n / 2;
            for (int j = middle - reach; j <= middle + reach; j++) {
                rows[i][j] = (j - middle + reach) % 2 == 0 ? 1 : -1;
            }
        }
        return rows;
    }
}
