import java.math.BigInteger;
import java.util.ArrayDeque;
import java.util.ArrayList;
import java.util.Arrays;
import java.util.Comparator;
import java.util.HashMap;
import java.util.List;
import java.util.Map;
import java.util.TreeMap;

/**
 * What the document's terms say of tables, done the long way: tables are kept as their numbers, and
 * all else is taken from them by the words of the terms. It shares no thought with the class it checks.
 */
final class Reference {
    private static final Map<Integer, List<int[][]>> ALL = new HashMap<>();
    private static final Map<Integer, Map<String, Long>> NUMBERS = new HashMap<>();
    private static final Map<Integer, Map<List<Integer>, Long>> WAYS = new HashMap<>();
    private static final Map<String, int[]> DISTANCES = new HashMap<>();

    private Reference() {
    }

    // ---- tables

    static boolean lineIsRight(int[] line) {
        int due = 1;
        for (int v : line) {
            if (v == 0) {
                continue;
            }
            if (v != due) {
                return false;
            }
            due = -due;
        }
        return due == -1;
    }

    static int[] column(int[][] a, int j) {
        int[] line = new int[a.length];
        for (int i = 0; i < a.length; i++) {
            line[i] = a[i][j];
        }
        return line;
    }

    static boolean isTable(int[][] a) {
        for (int k = 0; k < a.length; k++) {
            if (!lineIsRight(a[k]) || !lineIsRight(column(a, k))) {
                return false;
            }
        }
        return true;
    }

    /** All tables of n in the order of their numbers (n up to 6). */
    static List<int[][]> all(int n) {
        return ALL.computeIfAbsent(n, size -> {
            List<int[][]> found = new ArrayList<>();
            fill(new int[size][size], 0, found);
            found.sort(Comparator.comparing(Reference::triangle, Reference::compareTriangles));
            return found;
        });
    }

    private static void fill(int[][] a, int cell, List<int[][]> found) {
        int n = a.length;
        if (cell == n * n) {
            if (isTable(a)) {
                found.add(copy(a));
            }
            return;
        }
        int i = cell / n;
        int j = cell % n;
        if (j == 0 && i > 0 && !lineIsRight(a[i - 1])) {
            return;
        }
        int above = 0;
        for (int k = 0; k < i; k++) {
            above += a[k][j];
        }
        for (int v = -1; v <= 1; v++) {
            if (above + v >= 0 && above + v <= 1) {
                a[i][j] = v;
                fill(a, cell + 1, found);
            }
        }
        a[i][j] = 0;
    }

    static int[][] copy(int[][] a) {
        int[][] b = new int[a.length][];
        for (int i = 0; i < a.length; i++) {
            b[i] = a[i].clone();
        }
        return b;
    }

    // ---- corner sums

    static int[][] corners(int[][] a) {
        int n = a.length;
        int[][] c = new int[n + 1][n + 1];
        for (int i = 0; i <= n; i++) {
            for (int j = 0; j <= n; j++) {
                for (int k = 0; k < i; k++) {
                    for (int l = 0; l < j; l++) {
                        c[i][j] += a[k][l];
                    }
                }
            }
        }
        return c;
    }

    static int[][] fromCorners(int[][] c) {
        int n = c.length - 1;
        int[][] a = new int[n][n];
        for (int i = 0; i < n; i++) {
            for (int j = 0; j < n; j++) {
                a[i][j] = c[i + 1][j + 1] - c[i][j + 1] - c[i + 1][j] + c[i][j];
            }
        }
        return a;
    }

    // ---- triangles and numbers

    static List<List<Integer>> triangle(int[][] a) {
        int n = a.length;
        List<List<Integer>> rows = new ArrayList<>();
        for (int i = 1; i <= n; i++) {
            List<Integer> row = new ArrayList<>();
            for (int j = 0; j < n; j++) {
                int sum = 0;
                for (int k = 0; k < i; k++) {
                    sum += a[k][j];
                }
                if (sum == 1) {
                    row.add(j);
                }
            }
            rows.add(row);
        }
        return rows;
    }

    static int[][] fromTriangle(List<List<Integer>> rows) {
        int n = rows.size();
        int[][] a = new int[n][n];
        for (int i = 0; i < n; i++) {
            for (int j = 0; j < n; j++) {
                int before = i > 0 && rows.get(i - 1).contains(j) ? 1 : 0;
                a[i][j] = (rows.get(i).contains(j) ? 1 : 0) - before;
            }
        }
        return a;
    }

    static int compareRows(List<Integer> one, List<Integer> other) {
        for (int k = 0; k < one.size(); k++) {
            if (!one.get(k).equals(other.get(k))) {
                return one.get(k) - other.get(k);
            }
        }
        return 0;
    }

    static int compareTriangles(List<List<Integer>> one, List<List<Integer>> other) {
        for (int i = 0; i < one.size(); i++) {
            int way = compareRows(one.get(i), other.get(i));
            if (way != 0) {
                return way;
            }
        }
        return 0;
    }

    /** All rows that may follow a row, ahead ones first: by trying every row vector that alternates. */
    static List<List<Integer>> following(int n, List<Integer> row) {
        List<List<Integer>> found = new ArrayList<>();
        addFollowing(n, row, 0, 0, new ArrayList<>(), found);
        found.sort(Reference::compareRows);
        return found;
    }

    private static void addFollowing(int n, List<Integer> row, int j, int sum, List<Integer> made,
            List<List<Integer>> found) {
        if (j == n) {
            if (sum == 1) {
                found.add(new ArrayList<>(made));
            }
            return;
        }
        int before = row.contains(j) ? 1 : 0;
        for (int v = -1; v <= 1; v++) {
            int below = before + v;
            if (below < 0 || below > 1 || sum + v < 0 || sum + v > 1) {
                continue;
            }
            if (below == 1) {
                made.add(j);
            }
            addFollowing(n, row, j + 1, sum + v, made, found);
            if (below == 1) {
                made.remove(made.size() - 1);
            }
        }
    }

    static long ways(int n, List<Integer> row) {
        if (row.size() == n) {
            return 1;
        }
        Map<List<Integer>, Long> known = WAYS.computeIfAbsent(n, k -> new HashMap<>());
        Long kept = known.get(row);
        if (kept != null) {
            return kept;
        }
        long total = 0;
        for (List<Integer> next : following(n, row)) {
            total += ways(n, next);
        }
        known.put(new ArrayList<>(row), total);
        return total;
    }

    static long number(int[][] a) {
        int n = a.length;
        if (n <= 5) {
            return smallNumber(a);
        }
        long ahead = 0;
        List<Integer> row = new ArrayList<>();
        for (List<Integer> next : triangle(a)) {
            for (List<Integer> other : following(n, row)) {
                if (compareRows(other, next) < 0) {
                    ahead += ways(n, other);
                }
            }
            row = next;
        }
        return ahead;
    }

    private static long smallNumber(int[][] a) {
        Map<String, Long> numbers = NUMBERS.computeIfAbsent(a.length, n -> {
            Map<String, Long> made = new HashMap<>();
            for (int[][] b : all(n)) {
                made.put(Arrays.deepToString(b), (long) made.size());
            }
            return made;
        });
        return numbers.get(Arrays.deepToString(a));
    }

    /** The table with a number, or null. */
    static int[][] of(int n, long number) {
        if (number < 0 || number >= ways(n, List.of())) {
            return null;
        }
        if (n <= 5) {
            return copy(all(n).get((int) number));
        }
        long left = number;
        List<List<Integer>> rows = new ArrayList<>();
        List<Integer> row = List.of();
        for (int i = 1; i <= n; i++) {
            for (List<Integer> next : following(n, row)) {
                long here = ways(n, next);
                if (left < here) {
                    row = next;
                    break;
                }
                left -= here;
            }
            rows.add(row);
        }
        return fromTriangle(rows);
    }

    // ---- arrows, held edges, loops

    static boolean edgeIsThere(int n, boolean level, int i, int j) {
        return i >= 0 && j >= 0 && (level ? i < n && j <= n : i <= n && j < n);
    }

    static int arrow(int[][] a, boolean level, int i, int j) {
        int sum = 0;
        for (int k = 0; k < (level ? j : i); k++) {
            sum += level ? a[i][k] : a[k][j];
        }
        return sum == 0 ? 1 : -1;
    }

    static boolean held(int[][] a, boolean level, int i, int j) {
        boolean even = (i + j) % 2 == 0;
        boolean plus = arrow(a, level, i, j) == 1;
        return level ? even == plus : even != plus;
    }

    private static int edgeId(int n, boolean level, int i, int j) {
        return level ? i * (n + 1) + j : n * (n + 1) + i * n + j;
    }

    /** Groups of held edges that hang together: for each edge the least one of its group, -1 if not held. */
    static int[] groups(int[][] a) {
        int n = a.length;
        int[] group = new int[2 * n * (n + 1)];
        Arrays.fill(group, -1);
        for (int i = 0; i <= n; i++) {
            for (int j = 0; j <= n; j++) {
                for (boolean level : new boolean[] {true, false}) {
                    if (edgeIsThere(n, level, i, j) && held(a, level, i, j)) {
                        group[edgeId(n, level, i, j)] = edgeId(n, level, i, j);
                    }
                }
            }
        }
        for (int i = 0; i < n; i++) {
            for (int j = 0; j < n; j++) {
                int[] around = {edgeId(n, true, i, j), edgeId(n, true, i, j + 1),
                    edgeId(n, false, i, j), edgeId(n, false, i + 1, j)};
                int[] held = Arrays.stream(around).filter(e -> group[e] >= 0).toArray();
                if (held.length != 2) {
                    throw new IllegalStateException("not two held edges at a place");
                }
                int from = Math.max(group[held[0]], group[held[1]]);
                int to = Math.min(group[held[0]], group[held[1]]);
                for (int e = 0; e < group.length; e++) {
                    if (group[e] == from) {
                        group[e] = to;
                    }
                }
            }
        }
        return group;
    }

    /** The edge ids of the ends, as they come. */
    static List<Integer> ends(int[][] a) {
        int n = a.length;
        List<Integer> ends = new ArrayList<>();
        for (int j = 0; j < n; j++) {
            addIfHeld(ends, a, false, 0, j);
        }
        for (int i = 0; i < n; i++) {
            addIfHeld(ends, a, true, i, n);
        }
        for (int j = n - 1; j >= 0; j--) {
            addIfHeld(ends, a, false, n, j);
        }
        for (int i = n - 1; i >= 0; i--) {
            addIfHeld(ends, a, true, i, 0);
        }
        return ends;
    }

    private static void addIfHeld(List<Integer> ends, int[][] a, boolean level, int i, int j) {
        if (held(a, level, i, j)) {
            ends.add(edgeId(a.length, level, i, j));
        }
    }

    static int[] links(int[][] a) {
        int[] group = groups(a);
        List<Integer> ends = ends(a);
        int[] links = new int[ends.size()];
        Arrays.fill(links, -1);
        for (int e = 0; e < links.length; e++) {
            for (int f = 0; f < links.length; f++) {
                if (e != f && group[ends.get(e)] == group[ends.get(f)]) {
                    links[e] = f;
                }
            }
        }
        return links;
    }

    static int rings(int[][] a) {
        int[] group = groups(a);
        Map<Integer, Boolean> isRing = new TreeMap<>();
        for (int g : group) {
            if (g >= 0) {
                isRing.put(g, true);
            }
        }
        for (int end : ends(a)) {
            isRing.put(group[end], false);
        }
        return (int) isRing.values().stream().filter(ring -> ring).count();
    }

    static int alike(int[][] a) {
        int[] links = links(a);
        int many = 0;
        for (int[][] b : all(a.length)) {
            if (Arrays.equals(links, links(b))) {
                many++;
            }
        }
        return many;
    }

    // ---- turning: by what is held, edge by edge

    static int[][] turned(int[][] a) {
        int n = a.length;
        boolean[][] level = new boolean[n][n + 1];
        boolean[][] upright = new boolean[n + 1][n];
        for (int i = 0; i <= n; i++) {
            for (int j = 0; j <= n; j++) {
                if (i < n) {
                    level[i][j] = held(a, true, i, j);
                }
                if (j < n) {
                    upright[i][j] = held(a, false, i, j);
                }
            }
        }
        for (int parity = 0; parity < 2; parity++) {
            boolean[][] levelNow = copyFlags(level);
            boolean[][] uprightNow = copyFlags(upright);
            for (int i = 0; i <= n - 2; i++) {
                for (int j = 0; j <= n - 2; j++) {
                    boolean l1 = levelNow[i][j + 1];
                    boolean l2 = levelNow[i + 1][j + 1];
                    boolean u1 = uprightNow[i + 1][j];
                    boolean u2 = uprightNow[i + 1][j + 1];
                    if ((i + j) % 2 == parity && l1 == l2 && u1 == u2 && l1 != u1) {
                        level[i][j + 1] = !l1;
                        level[i + 1][j + 1] = !l2;
                        upright[i + 1][j] = !u1;
                        upright[i + 1][j + 1] = !u2;
                    }
                }
            }
        }
        int[][] made = new int[n][n];
        for (int i = 0; i < n; i++) {
            for (int j = 0; j < n; j++) {
                made[i][j] = sumLeftOf(level, i, j + 1) - sumLeftOf(level, i, j);
            }
        }
        for (int i = 0; i <= n; i++) {
            for (int j = 0; j <= n; j++) {
                if (i < n && held(made, true, i, j) != level[i][j]
                        || j < n && held(made, false, i, j) != upright[i][j]) {
                    throw new IllegalStateException("turning left no table");
                }
            }
        }
        return made;
    }

    private static int sumLeftOf(boolean[][] level, int i, int j) {
        boolean right = level[i][j] == ((i + j) % 2 == 0);
        return right ? 0 : 1;
    }

    private static boolean[][] copyFlags(boolean[][] flags) {
        boolean[][] made = new boolean[flags.length][];
        for (int i = 0; i < flags.length; i++) {
            made[i] = flags[i].clone();
        }
        return made;
    }

    // ---- moves and kinds

    static int[][] moved(int[][] a, int what) {
        int n = a.length;
        int[][] b = new int[n][n];
        for (int i = 0; i < n; i++) {
            for (int j = 0; j < n; j++) {
                b[i][j] = what == 0 ? a[i][n - 1 - j] : what == 1 ? a[n - 1 - j][i] : a[j][i];
            }
        }
        return b;
    }

    static int less(int[][] a) {
        return (int) Arrays.stream(a).flatMapToInt(Arrays::stream).filter(v -> v == -1).count();
    }

    static int kind(int[][] a) {
        int[][] quarter = moved(a, 1);
        return less(a) == 0 ? 0
                : Arrays.deepEquals(a, quarter) ? 1
                : Arrays.deepEquals(a, moved(quarter, 1)) ? 2
                : Arrays.deepEquals(a, moved(a, 0)) ? 3 : 4;
    }

    // ---- steps and order

    static boolean below(int[][] a, int[][] b) {
        int[][] c = corners(a);
        int[][] d = corners(b);
        for (int i = 0; i < c.length; i++) {
            for (int j = 0; j < c.length; j++) {
                if (c[i][j] < d[i][j]) {
                    return false;
                }
            }
        }
        return true;
    }

    /** The table after a step, or null. */
    static int[][] stepped(int[][] a, int i, int j, int by) {
        int n = a.length;
        if (i < 0 || j < 0 || i > n || j > n) {
            return null;
        }
        int[][] c = corners(a);
        c[i][j] += by;
        int[][] b = fromCorners(c);
        // The first row and column of corner sums and the whole sum are told by no number.
        return i > 0 && j > 0 && Arrays.deepEquals(corners(b), c) && isTable(b) ? b : null;
    }

    /** The greatest table below both, or the least that both are below: by looking at all (n up to 4). */
    static int[][] extremeOfAll(int[][] a, int[][] b, boolean greatest) {
        List<int[][]> fit = new ArrayList<>();
        for (int[][] t : all(a.length)) {
            if (greatest ? below(t, a) && below(t, b) : below(a, t) && below(b, t)) {
                fit.add(t);
            }
        }
        for (int[][] t : fit) {
            boolean best = true;
            for (int[][] u : fit) {
                best &= greatest ? below(u, t) : below(t, u);
            }
            if (best) {
                return copy(t);
            }
        }
        throw new IllegalStateException("no extreme table");
    }

    static int[][] extreme(int[][] a, int[][] b, boolean greatest) {
        if (a.length <= 4) {
            return extremeOfAll(a, b, greatest);
        }
        int[][] c = corners(a);
        int[][] d = corners(b);
        for (int i = 0; i < c.length; i++) {
            for (int j = 0; j < c.length; j++) {
                c[i][j] = greatest ? Math.max(c[i][j], d[i][j]) : Math.min(c[i][j], d[i][j]);
            }
        }
        int[][] made = fromCorners(c);
        if (!isTable(made)) {
            throw new IllegalStateException("no table between two");
        }
        return made;
    }

    static int apart(int[][] a, int[][] b) {
        if (a.length <= 5) {
            return distances(a)[(int) smallNumber(b)];
        }
        int[][] c = corners(a);
        int[][] d = corners(b);
        int sum = 0;
        for (int i = 0; i < c.length; i++) {
            for (int j = 0; j < c.length; j++) {
                sum += Math.abs(c[i][j] - d[i][j]);
            }
        }
        return sum;
    }

    /** How many steps away each table is, by going to all neighbours. */
    private static int[] distances(int[][] a) {
        return DISTANCES.computeIfAbsent(Arrays.deepToString(a), key -> {
            int[] away = new int[all(a.length).size()];
            Arrays.fill(away, -1);
            away[(int) smallNumber(a)] = 0;
            ArrayDeque<int[][]> open = new ArrayDeque<>();
            open.add(a);
            while (!open.isEmpty()) {
                int[][] t = open.remove();
                for (int cell = 0; cell < 2 * t.length * t.length; cell++) {
                    int[][] next = stepped(t, cell / 2 / t.length, cell / 2 % t.length, cell % 2 == 0 ? 1 : -1);
                    if (next != null && away[(int) smallNumber(next)] < 0) {
                        away[(int) smallNumber(next)] = away[(int) smallNumber(t)] + 1;
                        open.add(next);
                    }
                }
            }
            return away;
        });
    }

    // ---- counts

    /** The product of (3 k + 1)! / (n + k)! over k below n. */
    static BigInteger count(int n) {
        BigInteger over = BigInteger.ONE;
        BigInteger under = BigInteger.ONE;
        for (int k = 0; k < n; k++) {
            over = over.multiply(factorial(3 * k + 1));
            under = under.multiply(factorial(n + k));
        }
        return over.divide(under);
    }

    /** By the closed form of Mills, Robbins and Rumsey. */
    static BigInteger first(int n, int column) {
        int k = column + 1;
        BigInteger over = choose(n + k - 2, k - 1).multiply(choose(2 * n - k - 1, n - k));
        return over.multiply(count(n)).divide(choose(3 * n - 2, n - 1));
    }

    private static BigInteger choose(int n, int k) {
        return factorial(n).divide(factorial(k)).divide(factorial(n - k));
    }

    private static BigInteger factorial(int n) {
        BigInteger made = BigInteger.ONE;
        for (int k = 2; k <= n; k++) {
            made = made.multiply(BigInteger.valueOf(k));
        }
        return made;
    }

    /** Going from row to row of triangles: each -1 of a row counts twice. */
    static long weight(int n) {
        Map<List<Integer>, Long> now = new HashMap<>();
        now.put(List.of(), 1L);
        for (int i = 1; i <= n; i++) {
            Map<List<Integer>, Long> next = new HashMap<>();
            for (Map.Entry<List<Integer>, Long> entry : now.entrySet()) {
                for (List<Integer> row : following(n, entry.getKey())) {
                    long gone = entry.getKey().stream().filter(j -> !row.contains(j)).count();
                    next.merge(row, entry.getValue() << gone, Long::sum);
                }
            }
            now = next;
        }
        long total = 0;
        for (long value : now.values()) {
            total += value;
        }
        return total;
    }
}
