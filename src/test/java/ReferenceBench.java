import java.util.ArrayList;
import java.util.Arrays;
import java.util.List;

/** The document's face over Reference, for runs of calls that are made on both. */
final class ReferenceBench {
    private static final int NONE = -1;
    private final int[][][] places = new int[8][][];
    private int sort = 0;
    private int n = 1;
    private int[][] cells = new int[11][11];

    ReferenceBench() {
        Arrays.fill(places, new int[][] {{1}});
    }

    private int[][] table(int place) {
        return place < 0 || place > 7 ? null : places[place];
    }

    private boolean alikeInSize(int a, int b) {
        return table(a) != null && table(b) != null && table(a).length == table(b).length;
    }

    boolean begin(int newSort, int newSize) {
        if (newSort < 0 || newSort > 2 || newSize < 1 || newSize > 10) {
            return false;
        }
        sort = newSort;
        n = newSize;
        cells = new int[11][11];
        return true;
    }

    private boolean has(int i, int j) {
        if (sort == 2) {
            return 1 <= i && i <= n && 0 <= j && j <= i - 1;
        }
        int last = sort == 0 ? n - 1 : n;
        return 0 <= i && i <= last && 0 <= j && j <= last;
    }

    boolean put(int i, int j, int v) {
        if (!has(i, j)) {
            return false;
        }
        cells[i][j] = v;
        return true;
    }

    private int[][] numbers() {
        int[][] a = new int[n][];
        for (int i = 0; i < n; i++) {
            a[i] = Arrays.copyOf(cells[i], n);
        }
        return a;
    }

    int fault() {
        if (sort == 0) {
            int[][] a = numbers();
            for (int i = 0; i < n; i++) {
                if (!Reference.lineIsRight(a[i])) {
                    return 100 + i;
                }
            }
            for (int j = 0; j < n; j++) {
                if (!Reference.lineIsRight(Reference.column(a, j))) {
                    return 200 + j;
                }
            }
            return 0;
        }
        for (int i = 0; i <= n; i++) {
            for (int j = 0; j <= n; j++) {
                if (has(i, j) && (sort == 1 ? cornerIsWrong(i, j) : columnIsWrong(i, j))) {
                    return 1000 + 100 * i + j;
                }
            }
        }
        return 0;
    }

    private boolean cornerIsWrong(int i, int j) {
        long v = cells[i][j];
        boolean wrong = i == 0 && v != 0;
        wrong |= j == 0 && v != 0;
        wrong |= i == n && v != j;
        wrong |= j == n && v != i;
        if (i > 0) {
            long more = v - cells[i - 1][j];
            wrong |= more != 0 && more != 1;
        }
        if (j > 0) {
            long more = v - cells[i][j - 1];
            wrong |= more != 0 && more != 1;
        }
        return wrong;
    }

    private boolean columnIsWrong(int i, int j) {
        int v = cells[i][j];
        boolean wrong = v < 0 || v > n - 1;
        wrong |= j > 0 && v <= cells[i][j - 1];
        wrong |= i > 1 && j <= i - 2 && v > cells[i - 1][j];
        wrong |= i > 1 && j >= 1 && v < cells[i - 1][j - 1];
        return wrong;
    }

    boolean take(int place) {
        if (table(place) == null || fault() != 0) {
            return false;
        }
        if (sort == 0) {
            places[place] = numbers();
        } else if (sort == 1) {
            int[][] c = new int[n + 1][];
            for (int i = 0; i <= n; i++) {
                c[i] = Arrays.copyOf(cells[i], n + 1);
            }
            places[place] = Reference.fromCorners(c);
        } else {
            List<List<Integer>> rows = new ArrayList<>();
            for (int i = 1; i <= n; i++) {
                List<Integer> row = new ArrayList<>();
                for (int j = 0; j < i; j++) {
                    row.add(cells[i][j]);
                }
                rows.add(row);
            }
            places[place] = Reference.fromTriangle(rows);
        }
        return true;
    }

    int size(int place) {
        return table(place) == null ? NONE : table(place).length;
    }

    int at(int place, int i, int j) {
        int[][] a = table(place);
        if (a == null) {
            return NONE;
        }
        return i < 0 || j < 0 || i >= a.length || j >= a.length ? 0 : a[i][j];
    }

    int sum(int place, int i, int j) {
        int[][] a = table(place);
        return a == null || i < 0 || j < 0 || i > a.length || j > a.length ? NONE : Reference.corners(a)[i][j];
    }

    int triangle(int place, int i, int j) {
        int[][] a = table(place);
        return a == null || i < 1 || i > a.length || j < 0 || j >= i ? NONE
                : Reference.triangle(a).get(i - 1).get(j);
    }

    int arrow(int place, boolean level, int i, int j) {
        int[][] a = table(place);
        if (a == null) {
            return NONE;
        }
        return Reference.edgeIsThere(a.length, level, i, j) ? Reference.arrow(a, level, i, j) : 0;
    }

    int held(int place, boolean level, int i, int j) {
        int[][] a = table(place);
        return a == null || !Reference.edgeIsThere(a.length, level, i, j) ? NONE
                : Reference.held(a, level, i, j) ? 1 : 0;
    }

    int link(int place, int end) {
        int[][] a = table(place);
        return a == null || end < 0 || end >= 2 * a.length ? NONE : Reference.links(a)[end];
    }

    int rings(int place) {
        return table(place) == null ? NONE : Reference.rings(table(place));
    }

    int kind(int place) {
        return table(place) == null ? NONE : Reference.kind(table(place));
    }

    int less(int place) {
        return table(place) == null ? NONE : Reference.less(table(place));
    }

    long count(int size) {
        return size < 1 || size > 13 ? NONE : Reference.count(size).longValueExact();
    }

    long first(int size, int column) {
        return size < 1 || size > 13 || column < 0 || column >= size ? NONE
                : Reference.first(size, column).longValueExact();
    }

    long weight(int size) {
        return size < 1 || size > 11 ? NONE : 1L << size * (size - 1) / 2;
    }

    long number(int place) {
        return table(place) == null ? NONE : Reference.number(table(place));
    }

    boolean of(int place, int size, long number) {
        if (table(place) == null || size < 1 || size > 10) {
            return false;
        }
        int[][] made = Reference.of(size, number);
        if (made == null) {
            return false;
        }
        places[place] = made;
        return true;
    }

    int draw(int place, int size, long seed) {
        if (table(place) == null || size < 1 || size > 10) {
            return NONE;
        }
        long greatest = Reference.count(size).longValueExact() - 1;
        int bits = 64 - Long.numberOfLeadingZeros(greatest);
        long x = seed;
        for (int times = 1; times <= 1000; times++) {
            x = x * 6364136223846793005L + 1442695040888963407L;
            long drawn = (x >>> 16) % (1L << bits);
            if (drawn <= greatest) {
                places[place] = Reference.of(size, drawn);
                return times;
            }
        }
        return NONE;
    }

    boolean both(int place, int a, int b) {
        return becomeExtreme(place, a, b, true);
    }

    boolean either(int place, int a, int b) {
        return becomeExtreme(place, a, b, false);
    }

    private boolean becomeExtreme(int place, int a, int b, boolean greatest) {
        if (table(place) == null || !alikeInSize(a, b)) {
            return false;
        }
        places[place] = Reference.extreme(table(a), table(b), greatest);
        return true;
    }

    boolean below(int a, int b) {
        return alikeInSize(a, b) && Reference.below(table(a), table(b));
    }

    int apart(int a, int b) {
        return alikeInSize(a, b) ? Reference.apart(table(a), table(b)) : NONE;
    }

    boolean step(int place, int i, int j, boolean up) {
        int[][] made = table(place) == null ? null : Reference.stepped(table(place), i, j, up ? 1 : -1);
        if (made == null) {
            return false;
        }
        places[place] = made;
        return true;
    }

    int toward(int place, int b) {
        if (!alikeInSize(place, b)) {
            return NONE;
        }
        int[][] from = table(place);
        int away = Reference.apart(from, table(b));
        for (int i = 0; i <= from.length; i++) {
            for (int j = 0; j <= from.length; j++) {
                for (int by = -1; by <= 1; by += 2) {
                    int[][] made = Reference.stepped(from, i, j, by);
                    if (made != null && Reference.apart(made, table(b)) < away) {
                        places[place] = made;
                        return 100 * i + j;
                    }
                }
            }
        }
        return NONE;
    }

    boolean turn(int place) {
        if (table(place) == null) {
            return false;
        }
        places[place] = Reference.turned(table(place));
        return true;
    }

    boolean move(int place, int what) {
        if (table(place) == null || what < 0 || what > 2) {
            return false;
        }
        places[place] = Reference.moved(table(place), what);
        return true;
    }

    int alike(int place) {
        return table(place) == null || table(place).length > 5 ? NONE : Reference.alike(table(place));
    }
}
