/** BAD for every call, BAD ahead of NO, NONE and FULL, and no change by a refused call. */
public final class WrongInputsTest {
    private static final Check check = new Check();
    private static final GoesInto x = new GoesInto();

    public static void main(String[] args) {
        check.due("BAD", GoesInto.BAD, -1);
        check.due("NO", GoesInto.NO, -2);
        check.due("FULL", GoesInto.FULL, -3);
        check.due("NONE", GoesInto.NONE, -4);
        x.write(4, 0x72657e26);
        long[] noNumbers = {0, -1, Oracle.LIMIT + 1, Long.MAX_VALUE, Long.MIN_VALUE, 1L << 32 << 10};
        for (long n : noNumbers) {
            for (int kind = 0; kind <= 3; kind++) {
                bad("sum of " + n, x.sum(kind, n));
            }
            bad("part of " + n, x.part(n, -1));
            bad("part of " + n, x.part(n, 0));
            bad("prime of " + n, x.prime(n, -1));
            bad("prime of " + n, x.prime(n, 0));
            bad("chain of " + n, x.chain(1, n, 0));
            bad("step of " + n, x.step(1, n, 0));
            bad("share of " + n, x.share(n, 0));
        }
        int[] noKinds = {-1, 4, Integer.MAX_VALUE, Integer.MIN_VALUE};
        for (int kind : noKinds) {
            bad("sum by kind " + kind, x.sum(kind, 12));
            bad("having by kind " + kind, x.having(kind, 12, 20, -1));
            noChainKind(kind);
        }
        noChainKind(0);
        int[] noPlaces = {-2, -3, Integer.MIN_VALUE};
        for (int i : noPlaces) {
            bad("part " + i, x.part(12, i));
            bad("prime " + i, x.prime(12, i));
            bad("rings " + i, x.rings(1, 1, 100, i));
            bad("having " + i, x.having(1, 1, 100, i));
            bad("wholly " + i, x.wholly(12, i));
            bad("friends " + i, x.friends(6, 100, i));
            bad("records " + i, x.records(0, 100, i));
            bad("wished " + i, x.wished(100, i));
            bad("step " + i, x.step(1, 12, i));
        }
        bad("step -1", x.step(1, 12, -1));
        noBounds();
        others();
        order();
        check.due("the text after all", x.count(0), 4);
        check.due("its first", x.wished(1000, 0), 945);
        check.finish();
    }

    private static void bad(String call, long got) {
        check.due(call, got, GoesInto.BAD);
    }

    private static void noChainKind(int kind) {
        bad("chain by kind " + kind, x.chain(kind, 12, 0));
        bad("step by kind " + kind, x.step(kind, 12, 0));
        bad("rings by kind " + kind, x.rings(kind, 1, 100, -1));
        bad("falling by kind " + kind, x.falling(kind, 6, 1, 100));
    }

    private static void noBounds() {
        int[] noBounds = {0, -1, 50001, Integer.MAX_VALUE, Integer.MIN_VALUE};
        for (int bound : noBounds) {
            bad("rings to " + bound, x.rings(1, 1, bound, -1));
            bad("having to " + bound, x.having(1, 1, bound, -1));
            bad("friends of " + bound, x.friends(bound, 100, -1));
            bad("friends to " + bound, x.friends(6, bound, -1));
            bad("reached to " + bound, x.reached(2, 1, bound));
            bad("records to " + bound, x.records(0, bound, -1));
            bad("sort of " + bound, x.sort(bound));
            bad("falling to " + bound, x.falling(1, 6, 1, bound));
            bad("falling to m " + bound, x.falling(1, bound, 1, 100));
            bad("wished to " + bound, x.wished(bound, -1));
            bad("holds " + bound, x.holds(bound));
            bad("made " + bound, x.made(bound));
        }
        bad("wished to 5001", x.wished(5001, -1));
        bad("holds 5001", x.holds(5001));
        bad("made 5001", x.made(5001));
    }

    private static void others() {
        for (int what : new int[] {-1, 4, Integer.MAX_VALUE, Integer.MIN_VALUE}) {
            bad("chain what " + what, x.chain(1, 12, what));
        }
        for (int what : new int[] {-1, 2, Integer.MAX_VALUE, Integer.MIN_VALUE}) {
            bad("share part " + what, x.share(12, what));
            bad("records sort " + what, x.records(what, 100, -1));
            bad("count what " + what, x.count(what));
        }
        for (int length : new int[] {0, -1, 10, Integer.MAX_VALUE, Integer.MIN_VALUE}) {
            bad("rings length " + length, x.rings(1, length, 100, -1));
        }
        for (int m : new int[] {-1, 100001, Integer.MAX_VALUE, Integer.MIN_VALUE}) {
            bad("having " + m, x.having(0, m, 100, -1));
        }
        for (int m : new int[] {0, -1, 1000001, Integer.MAX_VALUE, Integer.MIN_VALUE}) {
            bad("wholly " + m, x.wholly(m, -1));
        }
        for (int m : new int[] {1, 0, -1, 201, Integer.MAX_VALUE, Integer.MIN_VALUE}) {
            bad("bare " + m, x.bare(m));
        }
        for (int a : new int[] {0, -1, 1001, Integer.MAX_VALUE, Integer.MIN_VALUE}) {
            bad("reached a " + a, x.reached(a, 1, 100));
            bad("reached b " + a, x.reached(1, a, 100));
        }
        for (int k : new int[] {-1, 51, Integer.MAX_VALUE, Integer.MIN_VALUE}) {
            bad("falling k " + k, x.falling(1, 6, k, 100));
        }
        for (int n : new int[] {0, -1, 9, Integer.MAX_VALUE, Integer.MIN_VALUE}) {
            bad("write " + n, x.write(n, 0x7272727272727272L));
        }
    }

    /** Of several answers the first of BAD, NO, NONE, FULL is given. */
    private static void order() {
        GoesInto y = new GoesInto();
        bad("wished with a fault and a wrong bound", y.wished(5001, 0));
        bad("wished with a fault and a wrong place", y.wished(10, -2));
        bad("holds with a fault and a wrong number", y.holds(0));
        check.due("NO ahead of NONE", y.wished(10, 10), GoesInto.NO);
        for (int i = 0; i < 7; i++) {
            y.write(8, 0);
        }
        bad("write too many when full", y.write(9, 0));
        check.due("write 8 at 56", y.write(8, 0), GoesInto.FULL);
        check.due("count at 56", y.count(0), 56);
    }
}
