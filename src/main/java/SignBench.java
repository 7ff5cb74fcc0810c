/**
 * A bench for square tables of 0, 1 and -1 whose signs go by turns.
 *
 * Each table is kept as its corner sums alone: entries, triangles, arrows, held edges and steps are
 * all differences of neighbouring corner sums.
 */
public final class SignBench {
    public static final int NONE = -1;

    private static final int PLACES = 8;
    private static final int MOST = 10;
    /** Corner sums of n go from 0 to n: rows of all tables and drafts are laid this far apart. */
    private static final int WIDTH = MOST + 1;
    private static final int MOST_COUNTED = 13;
    private static final int MOST_WEIGHED = 11;
    private static final int MOST_COMPARED = 5;
    private static final int MOST_DRAWS = 1000;
    private static final long DRAW_FACTOR = 6364136223846793005L;
    private static final long DRAW_ADDEND = 1442695040888963407L;

    /** How many tables of n there are, by n; that of 0 is what first needs for n 1. */
    private static final long[] COUNTS = {
        1L, 1L, 2L, 7L, 42L, 429L, 7436L, 218348L, 10850216L, 911835460L, 129534272700L,
        31095744852375L, 12611311859677500L, 8639383518297652500L
    };

    private final Table[] tables = new Table[PLACES];
    private final Table spare = new Table();
    private final Draft draft = new Draft();
    private final Numbering numbering = new Numbering();
    private final Loops loops = new Loops();
    private final Joinings joinings = new Joinings();

    public SignBench() {
        for (int place = 0; place < PLACES; place++) {
            tables[place] = new Table();
        }
    }

    public boolean begin(int sort, int n) {
        if (sort < Draft.NUMBERS || sort > Draft.TRIANGLE || !isSize(n)) {
            return false;
        }
        draft.clear(sort, n);
        return true;
    }

    public boolean put(int i, int j, int v) {
        if (!draft.has(i, j)) {
            return false;
        }
        draft.write(i, j, v);
        return true;
    }

    public int fault() {
        return draft.firstFault();
    }

    public boolean take(int place) {
        Table table = tableOf(place);
        if (table == null || draft.firstFault() != 0) {
            return false;
        }
        draft.copyTo(table);
        return true;
    }

    public int size(int place) {
        Table table = tableOf(place);
        return table == null ? NONE : table.n;
    }

    public int at(int place, int i, int j) {
        Table table = tableOf(place);
        if (table == null) {
            return NONE;
        }
        return isWithin(i, 0, table.n - 1) && isWithin(j, 0, table.n - 1) ? table.entry(i, j) : 0;
    }

    public int sum(int place, int i, int j) {
        Table table = tableOf(place);
        if (table == null || !isWithin(i, 0, table.n) || !isWithin(j, 0, table.n)) {
            return NONE;
        }
        return table.corner(i, j);
    }

    public int triangle(int place, int i, int j) {
        Table table = tableOf(place);
        if (table == null || !isWithin(i, 1, table.n) || !isWithin(j, 0, i - 1)) {
            return NONE;
        }
        return table.triangleColumn(i, j);
    }

    public int arrow(int place, boolean level, int i, int j) {
        Table table = tableOf(place);
        if (table == null) {
            return NONE;
        }
        if (!table.hasEdge(level, i, j)) {
            return 0;
        }
        return table.edgeSum(level, i, j) == 0 ? 1 : -1;
    }

    public int held(int place, boolean level, int i, int j) {
        Table table = tableOf(place);
        if (table == null || !table.hasEdge(level, i, j)) {
            return NONE;
        }
        return table.holds(level, i, j) ? 1 : 0;
    }

    public int link(int place, int end) {
        Table table = tableOf(place);
        if (table == null || !isWithin(end, 0, 2 * table.n - 1)) {
            return NONE;
        }
        return loops.otherEnd(table, end);
    }

    public int rings(int place) {
        Table table = tableOf(place);
        return table == null ? NONE : loops.ringsOf(table);
    }

    public int kind(int place) {
        Table table = tableOf(place);
        return table == null ? NONE : table.kindOf();
    }

    public int less(int place) {
        Table table = tableOf(place);
        return table == null ? NONE : table.minusOnes();
    }

    public long count(int n) {
        return isWithin(n, 1, MOST_COUNTED) ? COUNTS[n] : NONE;
    }

    public long first(int n, int column) {
        if (!isWithin(n, 1, MOST_COUNTED) || !isWithin(column, 0, n - 1)) {
            return NONE;
        }
        long many = COUNTS[n - 1];
        for (int k = 1; k <= column; k++) {
            many = timesRatio(many, (n - k) * (n + k - 1), k * (2 * n - k - 1));
        }
        return many;
    }

    public long weight(int n) {
        // Over all tables of n the sum is two to the power of n (n - 1) / 2 (the count of tilings
        // of the Aztec diamond).
        return isWithin(n, 1, MOST_WEIGHED) ? 1L << (n * (n - 1) / 2) : NONE;
    }

    public long number(int place) {
        Table table = tableOf(place);
        return table == null ? NONE : numbering.numberOf(table);
    }

    public boolean of(int place, int n, long number) {
        Table table = tableOf(place);
        if (table == null || !isSize(n) || number < 0 || number >= COUNTS[n]) {
            return false;
        }
        numbering.build(table, n, number);
        return true;
    }

    public int draw(int place, int n, long seed) {
        Table table = tableOf(place);
        if (table == null || !isSize(n)) {
            return NONE;
        }
        long mask = bitsUpTo(COUNTS[n] - 1);
        long x = seed;
        for (int times = 1; times <= MOST_DRAWS; times++) {
            x = x * DRAW_FACTOR + DRAW_ADDEND;
            long drawn = (x >>> 16) & mask;
            if (drawn < COUNTS[n]) {
                numbering.build(table, n, drawn);
                return times;
            }
        }
        return NONE;
    }

    public boolean both(int place, int a, int b) {
        Table table = tableOf(place);
        if (table == null || !areOfOneSize(a, b)) {
            return false;
        }
        // BELOW has the greater corner sums, so the greatest one below both has the greater of each.
        table.becomeExtreme(tables[a], tables[b], true);
        return true;
    }

    public boolean either(int place, int a, int b) {
        Table table = tableOf(place);
        if (table == null || !areOfOneSize(a, b)) {
            return false;
        }
        table.becomeExtreme(tables[a], tables[b], false);
        return true;
    }

    public boolean below(int a, int b) {
        return areOfOneSize(a, b) && tables[a].isBelow(tables[b]);
    }

    public int apart(int a, int b) {
        return areOfOneSize(a, b) ? tables[a].stepsTo(tables[b]) : NONE;
    }

    public boolean step(int place, int i, int j, boolean up) {
        Table table = tableOf(place);
        return table != null && table.shift(i, j, up ? 1 : -1);
    }

    public int toward(int place, int b) {
        return areOfOneSize(place, b) ? tables[place].stepToward(tables[b]) : NONE;
    }

    public boolean turn(int place) {
        Table table = tableOf(place);
        if (table == null) {
            return false;
        }
        table.turnSquares(0);
        table.turnSquares(1);
        return true;
    }

    public boolean move(int place, int what) {
        Table table = tableOf(place);
        if (table == null || !isWithin(what, Table.MIRRORED, Table.FLIPPED)) {
            return false;
        }
        spare.becomeMoved(table, what);
        table.become(spare);
        return true;
    }

    public int alike(int place) {
        Table table = tableOf(place);
        if (table == null || table.n > MOST_COMPARED) {
            return NONE;
        }
        if (!joinings.knows(table.n)) {
            learnJoinings(table.n);
        }
        return joinings.howMany(table.n, loops.joiningOf(table));
    }

    private void learnJoinings(int n) {
        for (int number = 0; number < COUNTS[n]; number++) {
            numbering.build(spare, n, number);
            joinings.learn(n, number, loops.joiningOf(spare));
        }
        joinings.finish(n);
    }

    private Table tableOf(int place) {
        return isWithin(place, 0, PLACES - 1) ? tables[place] : null;
    }

    private boolean areOfOneSize(int a, int b) {
        Table one = tableOf(a);
        Table other = tableOf(b);
        return one != null && other != null && one.n == other.n;
    }

    private static boolean isSize(int n) {
        return isWithin(n, 1, MOST);
    }

    private static boolean isWithin(int value, int least, int greatest) {
        return value >= least && value <= greatest;
    }

    /** many * over / under, which is whole: divided first, as the product may not fit in 64 bits. */
    private static long timesRatio(long many, int over, int under) {
        return under < 1 ? 0 : many / under * over + many % under * over / under;
    }

    private static long bitsUpTo(long greatest) {
        long mask = 0;
        for (int bit = 0; bit < 63 && mask < greatest; bit++) {
            mask = 2 * mask + 1;
        }
        return mask;
    }

    /** One table, as its corner sums. */
    private static final class Table {
        private static final int MIRRORED = 0;
        private static final int QUARTER_ROUND = 1;
        private static final int FLIPPED = 2;
        private static final int HALF_ROUND = 3;

        private final int[] corners = new int[WIDTH * WIDTH];
        private int n;

        private Table() {
            n = 1;
            corners[WIDTH + 1] = 1;
        }

        private int corner(int i, int j) {
            return corners[i * WIDTH + j];
        }

        private int entry(int i, int j) {
            return edgeSum(true, i, j + 1) - edgeSum(true, i, j);
        }

        private int triangleColumn(int i, int j) {
            int passed = 0;
            for (int column = 0; column < n; column++) {
                passed += edgeSum(false, i, column);
                if (passed > j) {
                    return column;
                }
            }
            return NONE;
        }

        /** The columns of a triangle's row as bits, that of column 0 the highest of n. */
        private int rowBits(int i) {
            int bits = 0;
            for (int column = 0; column < n; column++) {
                bits = 2 * bits + edgeSum(false, i, column);
            }
            return bits;
        }

        private boolean hasEdge(boolean level, int i, int j) {
            return isWithin(i, 0, level ? n - 1 : n) && isWithin(j, 0, level ? n : n - 1);
        }

        /** The sum of the numbers of the row left of a level edge, or of the column above an upright one. */
        private int edgeSum(boolean level, int i, int j) {
            int here = i * WIDTH + j;
            return corners[level ? here + WIDTH : here + 1] - corners[here];
        }

        private boolean holds(boolean level, int i, int j) {
            int parity = i + j + edgeSum(level, i, j) & 1;
            return parity == (level ? 0 : 1);
        }

        private int minusOnes() {
            int many = 0;
            for (int i = 0; i < n; i++) {
                for (int j = 0; j < n; j++) {
                    if (entry(i, j) == -1) {
                        many++;
                    }
                }
            }
            return many;
        }

        private int kindOf() {
            if (minusOnes() == 0) {
                return 0;
            }
            if (staysWhen(QUARTER_ROUND)) {
                return 1;
            }
            if (staysWhen(HALF_ROUND)) {
                return 2;
            }
            return staysWhen(MIRRORED) ? 3 : 4;
        }

        private boolean staysWhen(int moved) {
            for (int i = 0; i < n; i++) {
                for (int j = 0; j < n; j++) {
                    if (entry(i, j) != movedEntry(moved, i, j)) {
                        return false;
                    }
                }
            }
            return true;
        }

        /** What comes to (i, j) when the table is moved. */
        private int movedEntry(int moved, int i, int j) {
            int last = n - 1;
            switch (moved) {
                case MIRRORED:
                    return entry(i, last - j);
                case QUARTER_ROUND:
                    return entry(last - j, i);
                case FLIPPED:
                    return entry(j, i);
                default:
                    return entry(last - i, last - j);
            }
        }

        private boolean isBelow(Table other) {
            for (int i = 0; i <= n; i++) {
                for (int j = 0; j <= n; j++) {
                    if (corner(i, j) < other.corner(i, j)) {
                        return false;
                    }
                }
            }
            return true;
        }

        /** Each step changes one corner sum by 1, and there is always one that brings two tables nearer. */
        private int stepsTo(Table other) {
            int steps = 0;
            for (int i = 0; i <= n; i++) {
                for (int j = 0; j <= n; j++) {
                    steps += Math.abs(corner(i, j) - other.corner(i, j));
                }
            }
            return steps;
        }

        private int stepToward(Table other) {
            for (int i = 1; i < n; i++) {
                for (int j = 1; j < n; j++) {
                    int gap = other.corner(i, j) - corner(i, j);
                    if (gap != 0 && shift(i, j, gap > 0 ? 1 : -1)) {
                        return 100 * i + j;
                    }
                }
            }
            return NONE;
        }

        /** Changes one corner sum if a table is left; the outer corner sums are the same in all tables. */
        private boolean shift(int i, int j, int by) {
            if (!isWithin(i, 1, n - 1) || !isWithin(j, 1, n - 1)) {
                return false;
            }
            int value = corner(i, j) + by;
            if (!rises(corner(i - 1, j), value) || !rises(corner(i, j - 1), value)
                    || !rises(value, corner(i + 1, j)) || !rises(value, corner(i, j + 1))) {
                return false;
            }
            corners[i * WIDTH + j] = value;
            return true;
        }

        private static boolean rises(int from, int to) {
            return to == from || to == from + 1;
        }

        /**
         * A square's held edges are two level or two upright ones just if the corner sum in its
         * middle can be changed, up or down; the change swaps its held edges. Squares of one parity
         * share no edge, so their order is free.
         */
        private void turnSquares(int parity) {
            for (int i = 1; i < n; i++) {
                for (int j = 1; j < n; j++) {
                    if ((i + j & 1) == parity && !shift(i, j, 1)) {
                        shift(i, j, -1);
                    }
                }
            }
        }

        private void become(Table other) {
            n = other.n;
            System.arraycopy(other.corners, 0, corners, 0, WIDTH * WIDTH);
        }

        private void becomeExtreme(Table a, Table b, boolean greater) {
            n = a.n;
            for (int k = 0; k < WIDTH * WIDTH; k++) {
                int one = a.corners[k];
                int other = b.corners[k];
                corners[k] = greater ? Math.max(one, other) : Math.min(one, other);
            }
        }

        private void becomeMoved(Table other, int moved) {
            n = other.n;
            for (int i = 0; i < n; i++) {
                int rowSum = 0;
                for (int j = 0; j < n; j++) {
                    rowSum += other.movedEntry(moved, i, j);
                    corners[(i + 1) * WIDTH + j + 1] = corner(i, j + 1) + rowSum;
                }
            }
        }

        /** Row 0 and column 0 of the corner sums are 0 in every table, so nothing writes there. */
        private void layRow(int i, int bits) {
            int sumSoFar = 0;
            for (int column = 0; column < n; column++) {
                sumSoFar += bits >> (n - 1 - column) & 1;
                corners[i * WIDTH + column + 1] = sumSoFar;
            }
        }
    }

    /** Numbers of any kind that may tell a table. */
    private static final class Draft {
        private static final int NUMBERS = 0;
        private static final int CORNER_SUMS = 1;
        private static final int TRIANGLE = 2;

        private final int[] cells = new int[WIDTH * WIDTH];
        private int sort = NUMBERS;
        private int n = 1;

        private void clear(int newSort, int newSize) {
            sort = newSort;
            n = newSize;
            for (int k = 0; k < WIDTH * WIDTH; k++) {
                cells[k] = 0;
            }
        }

        private boolean has(int i, int j) {
            switch (sort) {
                case NUMBERS:
                    return isWithin(i, 0, n - 1) && isWithin(j, 0, n - 1);
                case CORNER_SUMS:
                    return isWithin(i, 0, n) && isWithin(j, 0, n);
                default:
                    return isWithin(i, 1, n) && isWithin(j, 0, i - 1);
            }
        }

        private void write(int i, int j, int v) {
            cells[i * WIDTH + j] = v;
        }

        private int cell(int i, int j) {
            return cells[i * WIDTH + j];
        }

        private int firstFault() {
            return sort == NUMBERS ? firstLineFault() : firstCellFault();
        }

        private int firstLineFault() {
            for (int i = 0; i < n; i++) {
                if (!alternates(i * WIDTH, 1)) {
                    return 100 + i;
                }
            }
            for (int j = 0; j < n; j++) {
                if (!alternates(j, WIDTH)) {
                    return 200 + j;
                }
            }
            return 0;
        }

        private boolean alternates(int from, int stride) {
            int due = 1;
            for (int k = 0; k < n; k++) {
                int value = cells[from + k * stride];
                if (value != 0) {
                    if (value != due) {
                        return false;
                    }
                    due = -due;
                }
            }
            return due == -1;
        }

        private int firstCellFault() {
            for (int i = 0; i <= n; i++) {
                for (int j = 0; j <= n; j++) {
                    if (has(i, j) && !(sort == CORNER_SUMS ? isCornerSum(i, j) : isColumn(i, j))) {
                        return 1000 + 100 * i + j;
                    }
                }
            }
            return 0;
        }

        private boolean isCornerSum(int i, int j) {
            int value = cell(i, j);
            if ((i == 0 || j == 0) && value != 0 || i == n && value != j || j == n && value != i) {
                return false;
            }
            return (i == 0 || Table.rises(cell(i - 1, j), value))
                    && (j == 0 || Table.rises(cell(i, j - 1), value));
        }

        private boolean isColumn(int i, int j) {
            int value = cell(i, j);
            if (!isWithin(value, 0, n - 1) || j > 0 && value <= cell(i, j - 1)) {
                return false;
            }
            // The row above has no j-th one for the last of this row.
            return i == 1 || (j == i - 1 || value <= cell(i - 1, j))
                    && (j == 0 || value >= cell(i - 1, j - 1));
        }

        /** Only for a draft without fault. */
        private void copyTo(Table table) {
            table.n = n;
            int bits = 0;
            for (int i = 1; i <= n; i++) {
                bits = triangleBits(i, bits);
                table.layRow(i, bits);
            }
        }

        /** The triangle's row i, from the row above. */
        private int triangleBits(int i, int above) {
            int bits = 0;
            for (int j = 0; j < n; j++) {
                int bit = 1 << (n - 1 - j);
                switch (sort) {
                    case NUMBERS:
                        bits += (above & bit) + cell(i - 1, j) * bit;
                        break;
                    case CORNER_SUMS:
                        bits += (cell(i, j + 1) - cell(i, j)) * bit;
                        break;
                    default:
                        bits += j < i ? 1 << (n - 1 - cell(i, j)) : 0;
                        break;
                }
            }
            return bits;
        }
    }

    /**
     * Goes through the rows that may follow a row in a triangle, in the order of the numbers. Rows
     * are bits, that of column 0 the highest: so a row ahead of another has the greater bits.
     */
    private static final class RowWalk {
        private final int[] least = new int[MOST + 1];
        private final int[] greatest = new int[MOST + 1];
        private final int[] columns = new int[MOST + 1];
        private int n;
        private int many;
        private int bits;

        /** Begins below a row that is not the last one. */
        private void start(int newSize, int above) {
            n = newSize;
            many = 1;
            for (int column = 0; column < n; column++) {
                if ((above >> (n - 1 - column) & 1) == 1) {
                    least[many] = column;
                    many++;
                }
            }
            greatest[many - 1] = n - 1;
            for (int j = many - 2; j >= 0; j--) {
                greatest[j] = Math.min(least[j + 1], greatest[j + 1] - 1);
            }
            bits = 0;
            layFrom(0, 0);
        }

        private boolean advance() {
            for (int j = many - 1; j >= 0; j--) {
                bits -= bitOf(columns[j]);
                if (columns[j] < greatest[j]) {
                    layFrom(j, columns[j] + 1);
                    return true;
                }
            }
            return false;
        }

        private void layFrom(int from, int column) {
            int lowest = column;
            for (int j = from; j < many; j++) {
                columns[j] = Math.max(least[j], lowest);
                bits += bitOf(columns[j]);
                lowest = columns[j] + 1;
            }
        }

        private int bitOf(int column) {
            return 1 << (n - 1 - column);
        }
    }

    /** Tells numbers from tables and tables from numbers. */
    private static final class Numbering {
        /** In how many ways a triangle can go on below a row: those of n stand from 1 << n on. */
        private final long[] ways = new long[2 << MOST];
        private final boolean[] known = new boolean[MOST + 1];
        private final RowWalk walk = new RowWalk();

        private long numberOf(Table table) {
            int n = table.n;
            learnWays(n);
            long ahead = 0;
            int above = 0;
            for (int i = 1; i <= n; i++) {
                int row = table.rowBits(i);
                ahead += waysBefore(n, above, row);
                above = row;
            }
            return ahead;
        }

        private void build(Table table, int n, long number) {
            learnWays(n);
            table.n = n;
            long left = number;
            int row = 0;
            for (int i = 1; i <= n; i++) {
                walk.start(n, row);
                left -= passWays(n, left);
                row = walk.bits;
                table.layRow(i, row);
            }
        }

        /** Moves the walk to the row in whose ways the number lies; answers how many are ahead of that row. */
        private long passWays(int n, long number) {
            int base = 1 << n;
            long passed = 0;
            for (int k = 0; k < base; k++) {
                long here = ways[base + walk.bits];
                if (number - passed < here || !walk.advance()) {
                    break;
                }
                passed += here;
            }
            return passed;
        }

        /** The ways of all rows below a row that are ahead of one; of all, if none is as low as it. */
        private long waysBefore(int n, int above, int row) {
            int base = 1 << n;
            long total = 0;
            walk.start(n, above);
            for (int k = 0; k < base && walk.bits > row; k++) {
                total += ways[base + walk.bits];
                if (!walk.advance()) {
                    break;
                }
            }
            return total;
        }

        private void learnWays(int n) {
            if (known[n]) {
                return;
            }
            known[n] = true;
            int base = 1 << n;
            int full = base - 1;
            ways[base + full] = 1;
            // A row below another has greater bits, so its ways are known by then.
            for (int row = full - 1; row >= 0; row--) {
                ways[base + row] = waysBefore(n, row, 0);
            }
        }
    }

    /** Follows held edges from place to place. */
    private static final class Loops {
        private static final int ABOVE = 0;
        private static final int RIGHT = 1;
        private static final int BELOW = 2;
        private static final int LEFT = 3;
        private static final int NO_SIDE = 4;

        private static final int[] DOWN = {-1, 0, 1, 0};
        private static final int[] ACROSS = {0, 1, 0, -1};

        /** In which round each place was last seen: a new round forgets them all at once. */
        private final int[] seenIn = new int[MOST * MOST];
        private int round;
        private int row;
        private int column;
        private int side;

        private int otherEnd(Table table, int end) {
            round++;
            goToEnd(table.n, end);
            return follow(table) ? endHere(table.n) : NONE;
        }

        private int ringsOf(Table table) {
            int n = table.n;
            round++;
            for (int end = 0; end < 2 * n; end++) {
                goToEnd(n, end);
                follow(table);
            }
            int many = 0;
            for (int i = 0; i < n; i++) {
                for (int j = 0; j < n; j++) {
                    if (!isSeen(i, j)) {
                        many++;
                        goRound(table, i, j);
                    }
                }
            }
            return many;
        }

        /** All that a table's ends are joined to, four bits each; only for tables of n up to 5. */
        private long joiningOf(Table table) {
            round++;
            long code = 0;
            for (int end = 0; end < 2 * table.n; end++) {
                goToEnd(table.n, end);
                // A way gone from its first end is seen when its other end's turn comes.
                if (follow(table)) {
                    int other = endHere(table.n);
                    code += (long) other << 4 * end;
                    code += (long) end << 4 * other;
                }
            }
            return code;
        }

        private boolean isSeen(int i, int j) {
            return seenIn[i * MOST + j] == round;
        }

        private void goRound(Table table, int i, int j) {
            row = i;
            column = j;
            side = nextHeldSide(table, NO_SIDE);
            follow(table);
        }

        /**
         * Goes on from a place come to by a side, until the way leaves the board by a side (true)
         * or comes to a place seen before (false).
         */
        private boolean follow(Table table) {
            for (int k = 0; k < MOST * MOST && !isSeen(row, column); k++) {
                seenIn[row * MOST + column] = round;
                side = nextHeldSide(table, side);
                int nextRow = row + DOWN[side];
                int nextColumn = column + ACROSS[side];
                if (!isWithin(nextRow, 0, table.n - 1) || !isWithin(nextColumn, 0, table.n - 1)) {
                    return true;
                }
                row = nextRow;
                column = nextColumn;
                side = side + 2 & 3;
            }
            return false;
        }

        /** The first held side of the place, but for one. */
        private int nextHeldSide(Table table, int without) {
            for (int candidate = ABOVE; candidate < LEFT; candidate++) {
                int i = candidate == BELOW ? row + 1 : row;
                int j = candidate == RIGHT ? column + 1 : column;
                if (candidate != without && table.holds(candidate == RIGHT, i, j)) {
                    return candidate;
                }
            }
            // Two of the four sides are held, so it is this one if none before it was.
            return LEFT;
        }

        /** Of the outer edges, gone round as ends are numbered, every second one is held, from 1 on. */
        private void goToEnd(int n, int end) {
            int edge = 2 * end + 1;
            side = edge < n ? ABOVE : edge < 2 * n ? RIGHT : edge < 3 * n ? BELOW : LEFT;
            int along = edge - side * n;
            switch (side) {
                case ABOVE:
                    row = 0;
                    column = along;
                    break;
                case RIGHT:
                    row = along;
                    column = n - 1;
                    break;
                case BELOW:
                    row = n - 1;
                    column = n - 1 - along;
                    break;
                default:
                    row = n - 1 - along;
                    column = 0;
                    break;
            }
        }

        private int endHere(int n) {
            switch (side) {
                case ABOVE:
                    return column >> 1;
                case RIGHT:
                    return n + row >> 1;
                case BELOW:
                    return 3 * n - 1 - column >> 1;
                default:
                    return 4 * n - 1 - row >> 1;
            }
        }
    }

    /** How the ends are joined in each table of a small n, kept as it is dear to find out. */
    private static final class Joinings {
        /** Where the codes of n begin; behind the last ones is how many there are in all. */
        private static final int[] STARTS = {0, 0, 1, 3, 10, 52, 481};

        private final long[] codes = new long[481];
        private final boolean[] known = new boolean[MOST_COMPARED + 1];

        private boolean knows(int n) {
            return known[n];
        }

        private void learn(int n, int number, long code) {
            codes[STARTS[n] + number] = code;
        }

        private void finish(int n) {
            known[n] = true;
        }

        private int howMany(int n, long code) {
            int many = 0;
            for (int k = STARTS[n]; k < STARTS[n + 1]; k++) {
                if (codes[k] == code) {
                    many++;
                }
            }
            return many;
        }
    }
}
