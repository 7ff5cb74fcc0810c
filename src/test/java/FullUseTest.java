/** "An object is used for at most 512 calls": the last of them answers as the first, for each dear call. */
public final class FullUseTest {
    private static final int CALLS = 512;
    private static final Checks CHECKS = new Checks("FullUseTest");

    public static void main(String[] args) {
        asking();
        drawing();
        turning();
        stepping();
        telling();
        CHECKS.end();
    }

    private static void asking() {
        SignBench x = new SignBench();
        x.of(0, 5, 8);
        for (int call = 2; call <= CALLS; call++) {
            CHECKS.due("alike, call " + call, x.alike(0), 42);
        }
        x = new SignBench();
        x.of(0, 10, 45879573337L);
        for (int call = 2; call <= CALLS; call++) {
            CHECKS.due("rings, call " + call, x.rings(0), 8);
        }
        x = new SignBench();
        x.of(0, 10, 129534272699L);
        for (int call = 2; call <= CALLS; call++) {
            CHECKS.due("number, call " + call, x.number(0), 129534272699L);
        }
        x = new SignBench();
        x.of(0, 10, 0);
        for (int call = 2; call <= CALLS; call++) {
            CHECKS.due("link, call " + call, x.link(0, call % 20), 19 - call % 20);
        }
    }

    private static void drawing() {
        SignBench x = new SignBench();
        for (int call = 1; call <= CALLS; call++) {
            CHECKS.due("draw, call " + call, x.draw(call % 8, 4, 417736), 17);
        }
        x = new SignBench();
        for (int call = 1; call <= CALLS; call += 2) {
            int n = 1 + call % 10;
            long number = Reference.count(n).longValueExact() - 1;
            CHECKS.due("of, call " + call, x.of(call % 8, n, number), true);
            CHECKS.due("number, call " + call, x.number(call % 8), number);
        }
    }

    /** The tables of 3 with numbers 0, 6 and 3 turn into one another. */
    private static void turning() {
        SignBench x = new SignBench();
        x.of(0, 3, 0);
        for (int call = 2; call <= CALLS - 1; call++) {
            CHECKS.due("turn, call " + call, x.turn(0), true);
        }
        CHECKS.due("turned 510 times", x.number(0), 0);
        x = new SignBench();
        x.of(0, 10, 123456);
        for (int call = 2; call <= CALLS - 1; call++) {
            CHECKS.due("move, call " + call, x.move(0, 0), true);
        }
        CHECKS.due("moved 510 times", x.number(0), 123456);
    }

    private static void stepping() {
        SignBench x = new SignBench();
        x.of(0, 10, 0);
        for (int call = 2; call <= CALLS - 1; call++) {
            CHECKS.due("step, call " + call, x.step(0, 5, 5, call % 2 == 1), true);
        }
        CHECKS.due("stepped there and back", x.number(0), 0);
    }

    private static void telling() {
        SignBench x = new SignBench();
        for (int call = 1; call <= CALLS - 2; call++) {
            CHECKS.due("put, call " + call, x.put(0, 0, call % 2), true);
        }
        CHECKS.due("0 was put last", x.fault(), 100);
        CHECKS.due("take", x.take(0), false);
    }
}
