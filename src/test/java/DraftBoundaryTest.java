/** Promises 1 to 5: a test for each sentence that names a boundary case. */
public final class DraftBoundaryTest {
    private static final Checks CHECKS = new Checks("DraftBoundaryTest");
    private static final Known KNOWN = new Known(CHECKS);
    private static final int MIN = Integer.MIN_VALUE;
    private static final int MAX = Integer.MAX_VALUE;

    public static void main(String[] args) {
        newTables();
        newDraft();
        objectsAreApart();
        beginRefused();
        beginAtTheEdges();
        beginLeavesAllZero();
        putWithinAndBeyond();
        putRefusedChangesNothing();
        putTakesAnyNumber();
        faultOfRows();
        faultOfColumns();
        faultByRowsThenColumns();
        faultOfOuterCornerSums();
        faultOfCornerSumsAbove();
        faultOfCornerSumsLeft();
        firstFaultOfCornerSums();
        faultOfTriangleColumns();
        faultInTriangleRow();
        faultOfTriangleAndRowAbove();
        firstFaultOfTriangle();
        takeRefused();
        takeOfNone();
        takeLeavesDraft();
        takeOverAnotherSize();
        CHECKS.end();
    }

    private static void due(String what, long got, long want) {
        CHECKS.due(what, got, want);
    }

    private static void due(String what, boolean got, boolean want) {
        CHECKS.due(what, got, want);
    }

    /** A new draft with these rows; rows and columns that are not there are left out. */
    private static SignBench draft(int sort, int n, int[]... rows) {
        SignBench x = new SignBench();
        x.begin(sort, n);
        for (int i = 0; i < rows.length; i++) {
            for (int j = 0; j < rows[i].length; j++) {
                x.put(i, j, rows[i][j]);
            }
        }
        return x;
    }

    private static int[] row(int... numbers) {
        return numbers;
    }

    private static SignBench fullDraft(int sort) {
        int[][] rows = new int[11][11];
        for (int i = 0; i <= 10; i++) {
            for (int j = 0; j <= 10; j++) {
                rows[i][j] = sort == 0 ? (i == j ? 1 : 0) : sort == 1 ? Math.min(i, j) : j;
            }
        }
        return draft(sort, 10, rows);
    }

    // ---- 1: a new object

    private static void newTables() {
        due("1: NONE", SignBench.NONE, -1);
        for (int place = 0; place <= 7; place++) {
            SignBench x = new SignBench();
            due("1: size", x.size(place), 1);
            due("1: at", x.at(place, 0, 0), 1);
            due("1: sum(0, 0)", x.sum(place, 0, 0), 0);
            due("1: sum(1, 0)", x.sum(place, 1, 0), 0);
            due("1: sum(0, 1)", x.sum(place, 0, 1), 0);
            due("1: sum(1, 1)", x.sum(place, 1, 1), 1);
            due("1: triangle", x.triangle(place, 1, 0), 0);
            due("1: rings", x.rings(place), 0);
            due("1: kind", x.kind(place), 0);
            due("1: less", x.less(place), 0);
            due("1: number", x.number(place), 0);
            due("1: alike", x.alike(place), 1);
        }
        SignBench x = new SignBench();
        due("1: no place -1", x.size(-1), -1);
        due("1: no place 8", x.size(8), -1);
    }

    private static void newDraft() {
        SignBench x = new SignBench();
        due("1: the draft's number is 0", x.fault(), 100);
        due("1: it tells no table", x.take(0), false);
        due("1: it has no column 1", x.put(0, 1, 1), false);
        due("1: it is no triangle", x.put(1, 0, 1), false);
        due("1: it is none of corner sums", x.put(1, 1, 1), false);
        due("1: it has row and column 0", x.put(0, 0, 1), true);
        due("1: then it tells the table of 1", x.fault(), 0);
        due("1: and can be taken", x.take(7), true);
    }

    private static void objectsAreApart() {
        SignBench one = new SignBench();
        SignBench other = new SignBench();
        one.of(0, 5, 9);
        one.put(0, 0, 1);
        due("1: another object's table", other.size(0), 1);
        due("1: another object's draft", other.fault(), 100);
    }

    // ---- 2: begin

    private static void beginRefused() {
        for (int sort : new int[] {-1, 3, MIN, MAX}) {
            KNOWN.refuses("2: begin(" + sort + ", 3)", x -> x.begin(sort, 3));
            KNOWN.refuses("2: begin(" + sort + ", 0)", x -> x.begin(sort, 0));
        }
        for (int n : new int[] {0, -1, 11, 13, MIN, MAX}) {
            for (int sort = 0; sort <= 2; sort++) {
                int of = sort;
                KNOWN.refuses("2: begin(" + sort + ", " + n + ")", x -> x.begin(of, n));
            }
        }
    }

    private static void beginAtTheEdges() {
        for (int sort = 0; sort <= 2; sort++) {
            SignBench x = Known.bench(0);
            due("2: n 1 of sort " + sort, x.begin(sort, 1), true);
            due("2: (0, 0) is there", x.put(0, 0, 0), sort != 2);
            due("2: (1, 0) is there", x.put(1, 0, 0), sort != 0);
            due("2: (1, 1) is there", x.put(1, 1, 0), sort == 1);
            due("2: n 10 of sort " + sort, x.begin(sort, 10), true);
            due("2: (9, 9) is there", x.put(9, 9, 0), sort != 2);
            due("2: (10, 9) is there", x.put(10, 9, 0), sort != 0);
            due("2: (10, 10) is there", x.put(10, 10, 0), sort == 1);
            KNOWN.placesStay("2: begin", x, SignBench.NONE);
        }
    }

    /** "All 0 at first": nothing of the draft before is left, whatever its sort was. */
    private static void beginLeavesAllZero() {
        for (int before = 0; before <= 2; before++) {
            SignBench x = fullDraft(before);
            due("2: a full draft of sort " + before, x.fault(), 0);
            x.begin(0, 10);
            due("2: all 0, numbers", x.fault(), 100);
            // Only what is not 0 in the table is put: the rest has to be 0.
            for (int i = 0; i < 10; i++) {
                x.put(i, 9 - i, 1);
            }
            due("2: the rest is 0, numbers", x.fault(), 0);
            x = fullDraft(before);
            x.begin(1, 10);
            due("2: all 0, corner sums", x.fault(), 1110);
            for (int i = 1; i <= 10; i++) {
                for (int j = 11 - i; j <= 10; j++) {
                    x.put(i, j, i + j - 10);
                }
            }
            due("2: the rest is 0, corner sums", x.fault(), 0);
            x = fullDraft(before);
            x.begin(2, 10);
            for (int i = 2; i <= 10; i++) {
                due("2: all 0, triangle row " + i, x.fault(), 1000 + 100 * i + 1);
                for (int j = 1; j < i; j++) {
                    due("2: all 0, triangle", x.fault(), 1000 + 100 * i + j);
                    x.put(i, j, j);
                }
            }
            due("2: the rest is 0, triangle", x.fault(), 0);
        }
    }

    // ---- 3: put

    private static void putWithinAndBeyond() {
        for (int n : new int[] {1, 2, 3, 10}) {
            for (int sort = 0; sort <= 2; sort++) {
                SignBench x = new SignBench();
                x.begin(sort, n);
                for (int i = -2; i <= n + 2; i++) {
                    for (int j = -2; j <= n + 2; j++) {
                        boolean there = sort == 0 ? 0 <= i && i <= n - 1 && 0 <= j && j <= n - 1
                                : sort == 1 ? 0 <= i && i <= n && 0 <= j && j <= n
                                : 1 <= i && i <= n && 0 <= j && j <= i - 1;
                        due("3: put(" + i + ", " + j + ") of n " + n + ", sort " + sort,
                                x.put(i, j, 1), there);
                    }
                }
            }
        }
    }

    private static void putRefusedChangesNothing() {
        for (int sort = 0; sort <= 2; sort++) {
            int last = sort == 0 ? 2 : 3;
            int first = sort == 2 ? 1 : 0;
            for (int far : new int[] {-1, last + 1, 10, 11, 12, 22, MIN, MAX}) {
                refusedPut(sort, far, 0);
                refusedPut(sort, first, far);
                refusedPut(sort, far, far);
            }
            refusedPut(sort, first - 1, 0);
        }
        refusedPut(2, 1, 1);
        refusedPut(2, 2, 2);
        refusedPut(2, 3, 3);
        // In a full draft there is no room that a number put beside it could go to unseen.
        for (int sort = 0; sort <= 2; sort++) {
            SignBench x = fullDraft(sort);
            int first = sort == 2 ? 1 : 0;
            int last = sort == 0 ? 9 : 10;
            for (int k = 0; k <= last; k++) {
                due("3: left of a full draft", x.put(k, -1, 99), false);
                due("3: right of a full draft", x.put(k, last + 1, 99), false);
                due("3: above a full draft", x.put(first - 1, k, 99), false);
                due("3: under a full draft", x.put(last + 1, k, 99), false);
            }
            due("3: a full draft stays", x.fault(), 0);
        }
    }

    private static void refusedPut(int sort, int i, int j) {
        String what = "3: put(" + i + ", " + j + ") of sort " + sort;
        for (int v : new int[] {7, MIN}) {
            SignBench x = Known.bench(sort);
            due(what, x.put(i, j, v), false);
            KNOWN.stays(what, x, sort);
        }
    }

    private static void putTakesAnyNumber() {
        for (int v : new int[] {5, -2, 11, MIN, MAX}) {
            for (int sort = 0; sort <= 2; sort++) {
                SignBench x = Known.bench(sort);
                due("3: put(2, 1, " + v + ")", x.put(2, 1, v), true);
                due("3: it is there", x.fault(), sort == 0 ? 102 : 1201);
                due("3: the last put counts", x.put(2, 1, sort == 2 ? 2 : 1), true);
                KNOWN.stays("3: put and put back", x, sort);
            }
        }
    }

    // ---- 4: fault

    private static void faultOfRows() {
        int[][] wrong = {{0, 0, 0}, {-1, 1, 1}, {0, -1, 0}, {1, -1, 0}, {1, 0, -1}, {1, 1, -1}, {1, 1, 0},
            {1, -1, -1}, {0, 2, 0}, {0, -2, 0}, {2, -1, 0}, {0, MIN, 0}, {0, MAX, 0}, {1, 0, 2}, {1, MIN, 1}};
        for (int[] line : wrong) {
            for (int i = 0; i < 3; i++) {
                int[][] rows = {{1, 0, 0}, {1, 0, 0}, {1, 0, 0}};
                rows[i] = line;
                due("4: row " + i + " is no right one", draft(0, 3, rows).fault(), 100 + i);
            }
        }
        for (int[] line : new int[][] {{1, 0, 0}, {0, 1, 0}, {0, 0, 1}, {1, -1, 1}}) {
            SignBench x = draft(0, 3, line, row(0, 0, 0));
            due("4: row 0 is a right one", x.fault(), 101);
        }
        SignBench x = fullDraft(0);
        x.put(9, 9, 0);
        due("4: row 9 is no right one", x.fault(), 109);
    }

    /** All rows are right ones. */
    private static void faultOfColumns() {
        due("4: two in column 0", draft(0, 2, row(1, 0), row(1, 0)).fault(), 200);
        due("4: two in column 1, none in column 0", draft(0, 2, row(0, 1), row(0, 1)).fault(), 200);
        due("4: column 1 is empty", draft(0, 3, row(1, 0, 0), row(0, 0, 1), row(0, 0, 1)).fault(), 201);
        due("4: column 1 begins with -1", draft(0, 3, row(1, -1, 1), row(0, 1, 0), row(0, 1, 0)).fault(), 201);
        due("4: column 1 ends with -1", draft(0, 3, row(0, 1, 0), row(0, 1, 0), row(1, -1, 1)).fault(), 201);
        due("4: column 2 is wrong", draft(0, 4, row(1, 0, 0, 0), row(0, 1, 0, 0), row(0, 0, 1, 0),
                row(0, 0, 1, 0)).fault(), 202);
        SignBench x = fullDraft(0);
        x.put(0, 0, 0);
        x.put(0, 9, 1);
        due("4: column 0 is empty", x.fault(), 200);
        x.put(9, 9, 0);
        x.put(9, 0, 1);
        due("4: then it is right again", x.fault(), 0);
        x.put(8, 8, 0);
        x.put(8, 9, 1);
        due("4: column 8 is empty", x.fault(), 208);
        // Column 9 is never the first: with right rows it holds no -1, and the others leave it one 1.
    }

    private static void faultByRowsThenColumns() {
        due("4: the first of two rows", draft(0, 3, row(1, 0, 0), row(1, 1, 0), row(0, 0, 0)).fault(), 101);
        due("4: the last row, ahead of column 0",
                draft(0, 3, row(1, 0, 0), row(1, 0, 0), row(0, 0, 0)).fault(), 102);
        due("4: the first of two columns", draft(0, 3, row(1, 0, 0), row(0, 1, 0), row(0, 1, 0)).fault(), 201);
        due("4: no fault", draft(0, 1, row(1)).fault(), 0);
        due("4: n 1, 0", draft(0, 1, row(0)).fault(), 100);
        due("4: n 1, -1", draft(0, 1, row(-1)).fault(), 100);
        due("4: n 1, 2", draft(0, 1, row(2)).fault(), 100);
    }

    /** Here each is the one above or 1 more, and the one to its left or 1 more. */
    private static void faultOfOuterCornerSums() {
        due("4: C(0, 0) is 0", draft(1, 2, row(1, 1, 1), row(1, 1, 1), row(1, 1, 2)).fault(), 1000);
        due("4: C(0, 0) is 0", draft(1, 2, row(-1, 0, 0), row(0, 1, 1), row(0, 1, 2)).fault(), 1000);
        due("4: C(0, 1) is 0", draft(1, 2, row(0, 1, 1), row(0, 1, 1), row(0, 1, 2)).fault(), 1001);
        due("4: C(0, n) is 0", draft(1, 2, row(0, 0, 1), row(0, 1, 1), row(0, 1, 2)).fault(), 1002);
        due("4: C(1, 0) is 0", draft(1, 2, row(0, 0, 0), row(1, 1, 1), row(1, 1, 2)).fault(), 1100);
        due("4: C(n, 0) is 0", draft(1, 2, row(0, 0, 0), row(0, 1, 1), row(1, 1, 2)).fault(), 1200);
        due("4: C(1, n) is 1", draft(1, 2, row(0, 0, 0), row(0, 0, 0), row(0, 1, 1)).fault(), 1102);
        due("4: C(n, 1) is 1", draft(1, 2, row(0, 0, 0), row(0, 0, 1), row(0, 0, 1)).fault(), 1201);
        due("4: C(n, n) is n", draft(1, 2, row(0, 0, 0), row(0, 1, 1), row(0, 1, 1)).fault(), 1202);
        due("4: n 1, C(1, 1) is 1", draft(1, 1, row(0, 0), row(0, 0)).fault(), 1101);
        due("4: n 1, no fault", draft(1, 1, row(0, 0), row(0, 1)).fault(), 0);
        due("4: n 1, C(1, 0) is 0", draft(1, 1, row(0, 0), row(1, 1)).fault(), 1100);
        due("4: n 1, C(0, 1) is 0", draft(1, 1, row(0, 1), row(0, 1)).fault(), 1001);
    }

    /** Here each is the one to its left or 1 more. */
    private static void faultOfCornerSumsAbove() {
        int[] none = row(0, 0, 0, 0);
        int[] last = row(0, 1, 2, 3);
        due("4: 1 less than the one above", draft(1, 3, none, row(0, 1, 1, 1), row(0, 0, 1, 2), last).fault(),
                1201);
        due("4: 2 more than the one above", draft(1, 3, none, row(0, 0, 0, 1), row(0, 1, 2, 2), last).fault(),
                1202);
        due("4: like the one above", draft(1, 3, none, row(0, 1, 1, 1), row(0, 1, 1, 2), last).fault(), 0);
        due("4: 1 more than the one above", draft(1, 3, none, row(0, 0, 0, 1), row(0, 0, 1, 2), last).fault(), 0);
    }

    /** Here each is the one above or 1 more. */
    private static void faultOfCornerSumsLeft() {
        int[] none = row(0, 0, 0, 0);
        int[] last = row(0, 1, 2, 3);
        due("4: 1 less than the one to its left",
                draft(1, 3, none, row(0, 0, 0, 1), row(0, 1, 0, 1), last).fault(), 1202);
        due("4: 2 more than the one to its left",
                draft(1, 3, none, row(0, 0, 1, 1), row(0, 0, 2, 2), last).fault(), 1202);
        due("4: like the one to its left", draft(1, 3, none, row(0, 1, 1, 1), row(0, 1, 1, 2), last).fault(), 0);
        due("4: 1 more than the one to its left",
                draft(1, 3, none, row(0, 0, 1, 1), row(0, 0, 1, 2), last).fault(), 0);
    }

    private static void firstFaultOfCornerSums() {
        for (int v : new int[] {MIN, MAX, -1, 11}) {
            for (int i = 0; i <= 10; i++) {
                SignBench x = fullDraft(1);
                for (int j = 10; j >= 0; j--) {
                    x.put(i, j, v);
                    due("4: C(" + i + ", " + j + ") is the first of the wrong ones", x.fault(),
                            1000 + 100 * i + j);
                }
                due("4: no table", x.take(0), false);
            }
        }
        SignBench x = fullDraft(1);
        due("4: n 10, no fault", x.fault(), 0);
        x.put(3, 0, 1);
        x.put(2, 10, 3);
        due("4: by rows, not by columns", x.fault(), 1210);
        // A number that goes round past the greatest is not 1 more.
        x = draft(1, 1, row(0, 0), row(MAX, MIN));
        due("4: going round", x.fault(), 1100);
        x = draft(1, 1, row(0, MAX), row(0, MIN));
        due("4: going round", x.fault(), 1001);
    }

    private static void faultOfTriangleColumns() {
        int[] none = row();
        due("4: n 1, no fault", draft(2, 1, none, row(0)).fault(), 0);
        for (int v : new int[] {-1, 1, MIN, MAX}) {
            due("4: n 1, no column " + v, draft(2, 1, none, row(v)).fault(), 1100);
        }
        for (int v : new int[] {-1, 3, MIN, MAX}) {
            due("4: row 1, no column " + v, draft(2, 3, none, row(v), row(0, 2), row(0, 1, 2)).fault(), 1100);
        }
        for (int v : new int[] {-1, MIN}) {
            due("4: row 2, no column " + v, draft(2, 3, none, row(1), row(v, 2), row(0, 1, 2)).fault(), 1200);
        }
        for (int v : new int[] {3, MAX}) {
            due("4: row 2, no column " + v, draft(2, 3, none, row(1), row(0, v), row(0, 1, 2)).fault(), 1201);
            due("4: row 3, no column " + v, draft(2, 3, none, row(1), row(0, 2), row(0, 1, v)).fault(), 1302);
        }
        for (int column = 0; column <= 2; column++) {
            SignBench x = draft(2, 3, none, row(column), row(Math.min(column, 1), 2), row(0, 1, 2));
            due("4: row 1, column " + column, x.fault(), 0);
        }
    }

    private static void faultInTriangleRow() {
        int[] none = row();
        due("4: like the one ahead", draft(2, 2, none, row(0), row(0, 0)).fault(), 1201);
        due("4: like the one ahead", draft(2, 3, none, row(2), row(2, 2), row(0, 1, 2)).fault(), 1201);
        due("4: below the one ahead", draft(2, 4, none, row(1), row(1, 3), row(1, 0, 3), row(0, 1, 2, 3)).fault(),
                1301);
        due("4: 1 above the one ahead", draft(2, 2, none, row(0), row(0, 1)).fault(), 0);
    }

    private static void faultOfTriangleAndRowAbove() {
        int[] none = row();
        int[] last = row(0, 1, 2);
        due("4: above the one of the row above", draft(2, 3, none, row(0), row(1, 2), last).fault(), 1200);
        due("4: like the one of the row above", draft(2, 3, none, row(1), row(1, 2), last).fault(), 0);
        due("4: below the one ahead in the row above", draft(2, 3, none, row(2), row(0, 1), last).fault(), 1201);
        due("4: like the one ahead in the row above", draft(2, 3, none, row(1), row(0, 1), last).fault(), 0);
        due("4: the last of a row has none above it", draft(2, 3, none, row(0), row(0, 2), last).fault(), 0);
        due("4: the first of a row has none ahead in the row above",
                draft(2, 3, none, row(2), row(0, 2), last).fault(), 0);
        due("4: in the middle, above that of the row above",
                draft(2, 4, none, row(0), row(0, 1), row(0, 2, 3), row(0, 1, 2, 3)).fault(), 1301);
        due("4: in the middle, below the one ahead above",
                draft(2, 4, none, row(2), row(2, 3), row(0, 1, 3), row(0, 1, 2, 3)).fault(), 1301);
    }

    private static void firstFaultOfTriangle() {
        for (int v : new int[] {MIN, MAX, -1, 10}) {
            for (int i = 1; i <= 10; i++) {
                SignBench x = fullDraft(2);
                for (int j = i - 1; j >= 0; j--) {
                    x.put(i, j, v);
                    due("4: (" + i + ", " + j + ") is the first of the wrong ones", x.fault(),
                            1000 + 100 * i + j);
                }
                due("4: no table", x.take(0), false);
            }
        }
        SignBench x = fullDraft(2);
        due("4: n 10, no fault", x.fault(), 0);
        x.put(3, 0, -1);
        x.put(2, 1, 10);
        due("4: by rows, not by columns", x.fault(), 1201);
        x = new SignBench();
        x.begin(2, 10);
        due("4: all 0", x.fault(), 1201);
    }

    // ---- 5: take

    private static void takeRefused() {
        for (int place : Known.NO_PLACES) {
            KNOWN.refuses("5: take(" + place + ")", x -> x.take(place));
        }
    }

    private static void takeOfNone() {
        for (int sort = 0; sort <= 2; sort++) {
            for (int place = 0; place <= 7; place++) {
                SignBench x = Known.bench(sort);
                x.put(2, 1, 9);
                due("5: take of no table", x.take(place), false);
                KNOWN.placesStay("5: take of no table", x, SignBench.NONE);
                x.put(2, 1, sort == 2 ? 2 : 1);
                KNOWN.draftStays("5: take of no table", x, sort);
            }
        }
        SignBench x = Known.bench(0);
        x.put(2, 1, 0);
        for (int place : Known.NO_PLACES) {
            due("5: neither a place nor a table", x.take(place), false);
        }
        KNOWN.placesStay("5: neither a place nor a table", x, SignBench.NONE);
    }

    private static void takeLeavesDraft() {
        for (int sort = 0; sort <= 2; sort++) {
            for (int place = 0; place <= 7; place++) {
                SignBench x = Known.bench(sort);
                due("5: take", x.take(place), true);
                KNOWN.isTable("5: the draft's table", x, place, 3, 3);
                KNOWN.placesStay("5: take", x, place);
                KNOWN.draftStays("5: take", x, sort);
            }
            SignBench x = Known.bench(sort);
            x.take(4);
            x.put(2, 1, 9);
            x.begin(0, 7);
            KNOWN.isTable("5: what is put later does not come to the place", x, 4, 3, 3);
        }
    }

    private static void takeOverAnotherSize() {
        for (int sort = 0; sort <= 2; sort++) {
            SignBench x = fullDraft(sort);
            due("5: a table of 10", x.take(7), true);
            KNOWN.isTable("5: a table of 10", x, 7, 10, 0);
            x.begin(0, 1);
            x.put(0, 0, 1);
            due("5: a table of 1 over one of 10", x.take(7), true);
            KNOWN.isTable("5: a table of 1", x, 7, 1, 0);
            due("5: nothing is left of it", x.at(7, 1, 1), 0);
            due("5: nothing is left of it", x.sum(7, 2, 2), -1);
        }
    }
}
