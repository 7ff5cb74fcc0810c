import java.util.Arrays;
import java.util.HashMap;
import java.util.List;
import java.util.Map;
import java.util.Random;

/** Every table of n up to 5, and drawn ones of n up to 10, seen from every side: promises 4 to 15, 19 to 30. */
public final class EveryTableTest {
    private static final Checks CHECKS = new Checks("EveryTableTest");
    private static String where;

    public static void main(String[] args) {
        for (int n = 1; n <= 5; n++) {
            for (int number = 0; number < Reference.all(n).size(); number++) {
                oneTable(n, number);
                turning(n, number);
                moves(n, number);
                alikeOnes(n, number);
                steps(n, number);
            }
        }
        Random random = new Random(5);
        for (int n = 6; n <= 10; n++) {
            long count = Reference.ways(n, List.of());
            for (int k = 0; k < 60; k++) {
                long number = k == 0 ? 0 : k == 1 ? count - 1 : Math.floorMod(random.nextLong(), count);
                oneTable(n, number);
                turning(n, number);
                moves(n, number);
                steps(n, number);
            }
        }
        pairs();
        drafts();
        CHECKS.end();
    }

    private static void due(String call, long got, long want) {
        CHECKS.due(where + call, got, want);
    }

    private static SignBench with(int n, long number) {
        SignBench x = new SignBench();
        where = "table " + number + " of " + n + ": ";
        due("of", x.of(0, n, number) ? 1 : 0, 1);
        return x;
    }

    private static void oneTable(int n, long number) {
        int[][] a = Reference.of(n, number);
        int[][] c = Reference.corners(a);
        List<List<Integer>> rows = Reference.triangle(a);
        SignBench x = with(n, number);
        due("size", x.size(0), n);
        due("number", x.number(0), number);
        due("less", x.less(0), Reference.less(a));
        due("kind", x.kind(0), Reference.kind(a));
        due("rings", x.rings(0), Reference.rings(a));
        for (int i = 0; i <= n; i++) {
            for (int j = 0; j <= n; j++) {
                due("at " + i + ", " + j, x.at(0, i, j), i < n && j < n ? a[i][j] : 0);
                due("sum " + i + ", " + j, x.sum(0, i, j), c[i][j]);
                due("triangle " + i + ", " + j, x.triangle(0, i, j),
                        i > 0 && j < i ? rows.get(i - 1).get(j) : SignBench.NONE);
            }
        }
        edges(n, number, a, true);
        edges(n, number, a, false);
        links(n, number, a);
    }

    private static void edges(int n, long number, int[][] a, boolean level) {
        SignBench x = with(n, number);
        for (int i = 0; i <= n; i++) {
            for (int j = 0; j <= n; j++) {
                boolean there = Reference.edgeIsThere(n, level, i, j);
                String edge = level + ", " + i + ", " + j;
                due("arrow " + edge, x.arrow(0, level, i, j), there ? Reference.arrow(a, level, i, j) : 0);
                due("held " + edge, x.held(0, level, i, j),
                        !there ? SignBench.NONE : Reference.held(a, level, i, j) ? 1 : 0);
            }
        }
    }

    private static void links(int n, long number, int[][] a) {
        SignBench x = with(n, number);
        int[] links = Reference.links(a);
        for (int end = -1; end <= 2 * n; end++) {
            due("link " + end, x.link(0, end), end < 0 || end == 2 * n ? SignBench.NONE : links[end]);
        }
    }

    /** The ends that loops join move one further round the board. */
    private static void turning(int n, long number) {
        SignBench x = with(n, number);
        int[] links = new int[2 * n];
        for (int end = 0; end < 2 * n; end++) {
            links[end] = x.link(0, end);
        }
        due("turn", x.turn(0) ? 1 : 0, 1);
        due("number turned", x.number(0), Reference.number(Reference.turned(Reference.of(n, number))));
        for (int end = 0; end < 2 * n; end++) {
            due("link turned " + end, x.link(0, (end + 1) % (2 * n)), (links[end] + 1) % (2 * n));
        }
    }

    private static void moves(int n, long number) {
        int[][] a = Reference.of(n, number);
        for (int what = 0; what <= 2; what++) {
            SignBench x = with(n, number);
            due("move " + what, x.move(0, what) ? 1 : 0, 1);
            int[][] moved = Reference.moved(a, what);
            for (int i = 0; i < n; i++) {
                for (int j = 0; j < n; j++) {
                    due("moved " + what + " at " + i + ", " + j, x.at(0, i, j), moved[i][j]);
                }
            }
        }
    }

    private static final Map<String, Integer> JOINED = new HashMap<>();

    private static void alikeOnes(int n, int number) {
        if (number == 0) {
            JOINED.clear();
            for (int[][] b : Reference.all(n)) {
                JOINED.merge(Arrays.toString(Reference.links(b)), 1, Integer::sum);
            }
        }
        SignBench x = with(n, number);
        due("alike", x.alike(0), JOINED.get(Arrays.toString(Reference.links(Reference.of(n, number)))));
        due("alike again", x.alike(0), x.alike(0));
        due("number stays", x.number(0), number);
    }

    private static void steps(int n, long number) {
        int[][] a = Reference.of(n, number);
        for (int i = -1; i <= n + 1; i++) {
            SignBench x = with(n, number);
            for (int j = -1; j <= n + 1; j++) {
                int[][] up = Reference.stepped(a, i, j, 1);
                int[][] down = Reference.stepped(a, i, j, -1);
                String at = i + ", " + j;
                due("step up " + at, x.step(0, i, j, true) ? 1 : 0, up == null ? 0 : 1);
                due("number after", x.number(0), up == null ? number : Reference.number(up));
                if (up != null) {
                    due("step back " + at, x.step(0, i, j, false) ? 1 : 0, 1);
                }
                due("step down " + at, x.step(0, i, j, false) ? 1 : 0, down == null ? 0 : 1);
                due("number after", x.number(0), down == null ? number : Reference.number(down));
                if (down != null) {
                    due("step back " + at, x.step(0, i, j, true) ? 1 : 0, 1);
                }
            }
        }
    }

    /** All pairs of n up to 4: the order, its extremes, and the way from one to the other. */
    private static void pairs() {
        for (int n = 1; n <= 4; n++) {
            List<int[][]> all = Reference.all(n);
            for (int one = 0; one < all.size(); one++) {
                for (int other = 0; other < all.size(); other++) {
                    pair(n, one, other, all.get(one), all.get(other));
                }
            }
        }
    }

    private static void pair(int n, int one, int other, int[][] a, int[][] b) {
        SignBench x = with(n, one);
        where = "tables " + one + " and " + other + " of " + n + ": ";
        x.of(1, n, other);
        int away = Reference.apart(a, b);
        due("below", x.below(0, 1) ? 1 : 0, Reference.below(a, b) ? 1 : 0);
        due("apart", x.apart(0, 1), away);
        due("both", x.both(2, 0, 1) ? 1 : 0, 1);
        due("number of both", x.number(2), Reference.number(Reference.extremeOfAll(a, b, true)));
        due("either", x.either(3, 0, 1) ? 1 : 0, 1);
        due("number of either", x.number(3), Reference.number(Reference.extremeOfAll(a, b, false)));
        for (int left = away - 1; left >= 0; left--) {
            due("toward goes on", x.toward(0, 1) > 0 ? 1 : 0, 1);
            due("apart then", x.apart(0, 1), left);
        }
        due("toward ends", x.toward(0, 1), SignBench.NONE);
        due("number there", x.number(0), other);
    }

    /** Each table of n up to 4 told in each sort of draft, and with each one number wrong. */
    private static void drafts() {
        for (int n = 1; n <= 4; n++) {
            for (int number = 0; number < Reference.all(n).size(); number++) {
                for (int sort = 0; sort <= 2; sort++) {
                    draft(n, number, sort);
                }
            }
        }
    }

    private static void draft(int n, int number, int sort) {
        where = "draft " + number + " of " + n + ", sort " + sort + ": ";
        SignBench x = new SignBench();
        ReferenceBench r = new ReferenceBench();
        r.of(0, n, number);
        due("begin", x.begin(sort, n) ? 1 : 0, 1);
        r.begin(sort, n);
        for (int i = 0; i <= n; i++) {
            for (int j = 0; j <= n; j++) {
                int v = sort == 0 ? r.at(0, i, j) : sort == 1 ? r.sum(0, i, j) : r.triangle(0, i, j);
                due("put " + i + ", " + j, x.put(i, j, v) ? 1 : 0, r.put(i, j, v) ? 1 : 0);
                due("fault", x.fault(), r.fault());
            }
        }
        due("no fault", x.fault(), 0);
        due("take", x.take(5) ? 1 : 0, 1);
        due("number", x.number(5), number);
        for (int i = 0; i <= n; i++) {
            for (int j = 0; j <= n; j++) {
                int right = sort == 0 ? r.at(0, i, j) : sort == 1 ? r.sum(0, i, j) : r.triangle(0, i, j);
                for (int wrong : new int[] {right - 1, right + 1, Integer.MAX_VALUE, right}) {
                    boolean there = r.put(i, j, wrong);
                    due("put " + wrong, x.put(i, j, wrong) ? 1 : 0, there ? 1 : 0);
                    due("fault", x.fault(), r.fault());
                }
            }
        }
        due("number still", x.number(5), number);
    }
}
