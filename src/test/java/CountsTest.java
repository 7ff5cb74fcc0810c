import java.util.List;

/** Promises 16, 17, 18, and 20 and 21 at the greatest numbers. */
public final class CountsTest {
    private static final Checks CHECKS = new Checks("CountsTest");
    private static final int[] NOT_SIZES = {0, -1, Integer.MIN_VALUE, Integer.MAX_VALUE};

    public static void main(String[] args) {
        counts();
        firsts();
        weights();
        edgesOfNumbers();
        draws();
        CHECKS.end();
    }

    private static void counts() {
        SignBench x = new SignBench();
        for (int n = 1; n <= 13; n++) {
            CHECKS.due("count(" + n + ")", x.count(n), Reference.count(n).longValueExact());
            if (n <= 10) {
                CHECKS.due("count(" + n + ") by triangles", x.count(n), Reference.ways(n, List.of()));
            }
        }
        CHECKS.due("count(14)", x.count(14), -1);
        for (int n : NOT_SIZES) {
            CHECKS.due("count(" + n + ")", x.count(n), -1);
        }
    }

    private static void firsts() {
        SignBench x = new SignBench();
        for (int n = 1; n <= 13; n++) {
            long total = 0;
            for (int column = 0; column < n; column++) {
                String call = "first(" + n + ", " + column + ")";
                CHECKS.due(call, x.first(n, column), Reference.first(n, column).longValueExact());
                if (n <= 10) {
                    CHECKS.due(call + " by triangles", x.first(n, column), Reference.ways(n, List.of(column)));
                }
                total += x.first(n, column);
            }
            CHECKS.due("all first of " + n, total, x.count(n));
            CHECKS.due("first(" + n + ", -1)", x.first(n, -1), -1);
            CHECKS.due("first(" + n + ", n)", x.first(n, n), -1);
        }
        CHECKS.due("first(14, 0)", x.first(14, 0), -1);
        CHECKS.due("first(3, MAX)", x.first(3, Integer.MAX_VALUE), -1);
        for (int n : NOT_SIZES) {
            CHECKS.due("first(" + n + ", 0)", x.first(n, 0), -1);
        }
    }

    private static void weights() {
        SignBench x = new SignBench();
        for (int n = 1; n <= 11; n++) {
            CHECKS.due("weight(" + n + ")", x.weight(n), Reference.weight(n));
        }
        CHECKS.due("weight(12)", x.weight(12), -1);
        for (int n : NOT_SIZES) {
            CHECKS.due("weight(" + n + ")", x.weight(n), -1);
        }
    }

    /** Number 0 has its ones down the one diagonal, the greatest down the other. */
    private static void edgesOfNumbers() {
        for (int n = 1; n <= 10; n++) {
            SignBench x = new SignBench();
            long count = x.count(n);
            CHECKS.due("of(1, n, 0)", x.of(1, n, 0), true);
            CHECKS.due("of(2, n, last)", x.of(2, n, count - 1), true);
            for (int i = 0; i < n; i++) {
                CHECKS.due("at(1, i, i)", x.at(1, i, i), 1);
                CHECKS.due("at(2, i, n - 1 - i)", x.at(2, i, n - 1 - i), 1);
            }
            CHECKS.due("number(1)", x.number(1), 0);
            CHECKS.due("number(2)", x.number(2), count - 1);
            CHECKS.due("of(1, n, count)", x.of(1, n, count), false);
            CHECKS.due("of(1, n, -1)", x.of(1, n, -1), false);
            CHECKS.due("of(1, n, MAX)", x.of(1, n, Long.MAX_VALUE), false);
            CHECKS.due("of(8, n, 0)", x.of(8, n, 0), false);
            CHECKS.due("number(1) still", x.number(1), 0);
            CHECKS.due("size(1) still", x.size(1), n);
        }
        SignBench x = new SignBench();
        for (int n : new int[] {0, -1, 11, 13, Integer.MIN_VALUE, Integer.MAX_VALUE}) {
            CHECKS.due("of(0, " + n + ", 0)", x.of(0, n, 0), false);
        }
    }

    private static void draws() {
        for (int n = 1; n <= 10; n++) {
            SignBench x = new SignBench();
            ReferenceBench r = new ReferenceBench();
            for (long seed : new long[] {0, 1, 5, -1, Long.MIN_VALUE, Long.MAX_VALUE, 77, 1234567890123L}) {
                String call = "draw(3, " + n + ", " + seed + ")";
                CHECKS.due(call, x.draw(3, n, seed), r.draw(3, n, seed));
                CHECKS.due("number after " + call, x.number(3), r.number(3));
                CHECKS.due("size after " + call, x.size(3), n);
            }
            CHECKS.due("draw(-1, n, 1)", x.draw(-1, n, 1), -1);
            CHECKS.due("draw(8, n, 1)", x.draw(8, n, 1), -1);
        }
        SignBench x = new SignBench();
        for (int n : new int[] {0, -1, 11, Integer.MIN_VALUE, Integer.MAX_VALUE}) {
            CHECKS.due("draw(0, " + n + ", 1)", x.draw(0, n, 1), -1);
        }
        CHECKS.due("size(0) still", x.size(0), 1);
    }
}
