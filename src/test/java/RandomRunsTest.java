import java.util.Random;

/** Long runs of calls, right and wrong ones, on the bench and on the reference: all 30 promises. */
public final class RandomRunsTest {
    private static final int CALLS = 512;
    private static final Checks CHECKS = new Checks("RandomRunsTest");

    private final Random random;
    private final int greatestSize;
    private final SignBench x = new SignBench();
    private final ReferenceBench r = new ReferenceBench();
    private String call;

    private RandomRunsTest(long seed, int greatestSize) {
        random = new Random(seed);
        this.greatestSize = greatestSize;
    }

    public static void main(String[] args) {
        for (int seed = 0; seed < 240; seed++) {
            RandomRunsTest run = new RandomRunsTest(seed, 2 + seed % 9);
            for (int k = 0; k < CALLS; k++) {
                run.oneCall("run " + seed + " call " + k + ": ");
            }
        }
        CHECKS.end();
    }

    private int upTo(int least, int greatest) {
        return least + random.nextInt(greatest - least + 1);
    }

    /** Mostly a place, and mostly one of the first three, so that they meet; at times none. */
    private int place() {
        int way = random.nextInt(40);
        return way == 0 ? -1 : way == 1 ? 8 : way == 2 ? Integer.MIN_VALUE
                : way == 3 ? Integer.MAX_VALUE : way < 12 ? upTo(0, 7) : upTo(0, 2);
    }

    private int size() {
        int way = random.nextInt(40);
        return way == 0 ? 0 : way == 1 ? 11 : way == 2 ? Integer.MIN_VALUE
                : way < 10 ? upTo(1, greatestSize) : greatestSize;
    }

    private int index(int place) {
        int way = random.nextInt(40);
        int n = Math.max(r.size(place), 1);
        return way == 0 ? Integer.MAX_VALUE : way == 1 ? Integer.MIN_VALUE : upTo(-1, n + 1);
    }

    private long number(int size) {
        int way = random.nextInt(20);
        long count = r.count(size);
        return way == 0 ? count : way == 1 ? -1 : way == 2 ? Long.MIN_VALUE : way == 3 ? Long.MAX_VALUE
                : way == 4 ? count - 1 : count < 1 ? 0 : Math.floorMod(random.nextLong(), count);
    }

    private void due(long got, long want) {
        CHECKS.due(call, got, want);
    }

    private void due(boolean got, boolean want) {
        CHECKS.due(call, got, want);
    }

    private void oneCall(String where) {
        int what = random.nextInt(37);
        int p = place();
        int i = index(p);
        int j = index(p);
        boolean flag = random.nextBoolean();
        call = where + "call of sort " + what + " with " + p + ", " + flag + ", " + i + ", " + j;
        if (what < 6) {
            draftCall(what, p);
        } else if (what < 16) {
            viewCall(what, p, i, j, flag);
        } else if (what < 24) {
            numberCall(what, p);
        } else {
            changeCall(what, p, i, j, flag);
        }
    }

    private void draftCall(int what, int p) {
        int n = size();
        switch (what) {
            case 0:
                int sort = upTo(-1, 3);
                due(x.begin(sort, n), r.begin(sort, n));
                break;
            case 1:
                due(x.fault(), r.fault());
                break;
            case 2:
                due(x.take(p), r.take(p));
                break;
            default:
                int i = upTo(-1, greatestSize + 1);
                int j = upTo(-1, greatestSize + 1);
                int v = random.nextInt(20) == 0 ? random.nextInt() : upTo(-1, greatestSize);
                due(x.put(i, j, v), r.put(i, j, v));
                break;
        }
    }

    private void viewCall(int what, int p, int i, int j, boolean flag) {
        switch (what) {
            case 6: due(x.size(p), r.size(p)); break;
            case 7: due(x.at(p, i, j), r.at(p, i, j)); break;
            case 8: due(x.sum(p, i, j), r.sum(p, i, j)); break;
            case 9: due(x.triangle(p, i, j), r.triangle(p, i, j)); break;
            case 10: due(x.arrow(p, flag, i, j), r.arrow(p, flag, i, j)); break;
            case 11: due(x.held(p, flag, i, j), r.held(p, flag, i, j)); break;
            case 12:
                int end = 2 * (i % 20) + (flag ? 1 : 0);
                due(x.link(p, end), r.link(p, end));
                break;
            case 13: due(x.rings(p), r.rings(p)); break;
            case 14: due(x.kind(p), r.kind(p)); break;
            default: due(x.less(p), r.less(p)); break;
        }
    }

    private void numberCall(int what, int p) {
        int n = size();
        int wide = upTo(-1, 15);
        switch (what) {
            case 16: due(x.count(wide), r.count(wide)); break;
            case 17:
                int column = upTo(-1, 14);
                due(x.first(wide, column), r.first(wide, column));
                break;
            case 18: due(x.weight(wide), r.weight(wide)); break;
            case 19:
            case 20:
                due(x.number(p), r.number(p));
                break;
            case 21:
            case 22:
                long number = number(n);
                due(x.of(p, n, number), r.of(p, n, number));
                break;
            default:
                long seed = random.nextLong();
                due(x.draw(p, n, seed), r.draw(p, n, seed));
                break;
        }
    }

    private void changeCall(int what, int p, int i, int j, boolean flag) {
        int a = place();
        int b = place();
        switch (what) {
            case 24: due(x.both(p, a, b), r.both(p, a, b)); break;
            case 25: due(x.either(p, a, b), r.either(p, a, b)); break;
            case 26: due(x.below(a, b), r.below(a, b)); break;
            case 27: due(x.apart(a, b), r.apart(a, b)); break;
            case 28:
            case 29:
            case 30:
                due(x.step(p, i, j, flag), r.step(p, i, j, flag));
                break;
            case 31:
            case 32:
                due(x.toward(p, a), r.toward(p, a));
                break;
            case 33:
            case 34:
                due(x.turn(p), r.turn(p));
                break;
            case 35:
                int move = upTo(-1, 3);
                due(x.move(p, move), r.move(p, move));
                break;
            default: due(x.alike(p), r.alike(p)); break;
        }
    }
}
