/** The edges that the document names for promises 2 to 6 and 11: sum, part, prime, chain, step, share. */
public final class NumberEdgesTest {
    private static final long MOST = 10000000000L;
    private static final long[] NO_NUMBERS = {0, -1, MOST + 1, Long.MAX_VALUE, Long.MIN_VALUE,
        // the low 32 bits of these are 12
        (4L << 32) + 12, (1L << 63) + 12};
    private static final int[] NO_PLACES = {-2, -3, Integer.MIN_VALUE};
    private static final Edges edges = new Edges();

    public static void main(String[] args) {
        sum();
        part();
        prime();
        chainInputs();
        chainEnds();
        chainComesRound();
        chainLostAbove();
        chainLostBehind200();
        stepInputs();
        stepGoesOn();
        stepBehind();
        share();
        edges.finish();
    }

    private static void sum() {
        edges.sentence("2: a NUMBER n is 1 to 10 to the 10");
        long[] ofOne = {1, 0, 0, 0};
        long[] ofMost = {24987792457L, 14987792457L, 9766650, 14987792456L};
        long[] ofLess = {16203253248L, 6203253249L, 2464040961L, 6203253248L};
        // 12 and 2 to the 32: no number is cut to 32 bits
        long[] ofLong = {7516192796L, 3221225488L, 1073741832L, 3221225487L};
        for (int kind = 0; kind <= 3; kind++) {
            sumIs(kind, 1, ofOne[kind]);
            sumIs(kind, MOST, ofMost[kind]);
            sumIs(kind, MOST - 1, ofLess[kind]);
            sumIs(kind, (1L << 32) + 12, ofLong[kind]);
            int k = kind;
            for (long n : NO_NUMBERS) {
                edges.bad("sum(" + k + ", " + n + ")", x -> x.sum(k, n));
            }
        }
        edges.sentence("2: KINDS are 0 to 3");
        sumIs(0, 12, 28);
        sumIs(3, 12, 15);
        for (int kind : new int[] {-1, 4, Integer.MIN_VALUE, Integer.MAX_VALUE}) {
            edges.bad("sum(" + kind + ", 12)", x -> x.sum(kind, 12));
            edges.bad("sum(" + kind + ", 0)", x -> x.sum(kind, 0));
        }
        edges.sentence("2: KIND 1 is all but n (of 1: 0)");
        sumIs(1, 1, 0);
        sumIs(1, 2, 1);
        sumIs(1, 6, 6);
        edges.sentence("2: KIND 2 is what shares no PART but 1, without n (of 1: 0)");
        sumIs(2, 1, 0);
        sumIs(2, 2, 1);
        sumIs(2, 4, 1);
        sumIs(2, 6, 6);
        sumIs(2, 8589934592L, 1);
        edges.sentence("2: KIND 3 is all but 1 and n (of 1, a prime: 0)");
        sumIs(3, 1, 0);
        sumIs(3, 2, 0);
        sumIs(3, 3, 0);
        sumIs(3, 4, 2);
        sumIs(3, 9999999967L, 0);
        sumIs(3, 9998200081L, 99991);
    }

    private static void sumIs(int kind, long n, long due) {
        edges.told("sum(" + kind + ", " + n + ")", due, x -> x.sum(kind, n));
    }

    private static void part() {
        edges.sentence("3: PARTS of n: from 1 on, n too");
        // a number, and how many PARTS it has; 6983776800 has the most
        long[][] numbers = {{1, 1}, {2, 2}, {4, 3}, {12, 6}, {9999999967L, 2}, {9998200081L, 3}, {8589934592L, 34},
            {6983776800L, 2304}, {MOST, 121}};
        for (long[] number : numbers) {
            long n = number[0];
            int many = (int) number[1];
            partIs(n, -1, many);
            partIs(n, 0, 1);
            partIs(n, many - 1, n);
            edges.none("part(" + n + ", " + many + ")", x -> x.part(n, many));
            edges.none("part(" + n + ", greatest)", x -> x.part(n, Integer.MAX_VALUE));
        }
        edges.sentence("3: the i-th, the least first; -1: how many");
        long[] ofTwelve = {1, 2, 3, 4, 6, 12};
        for (int i = 0; i < 6; i++) {
            partIs(12, i, ofTwelve[i]);
        }
        partIs(MOST, 119, MOST / 2);
        for (int i : NO_PLACES) {
            edges.bad("part(12, " + i + ")", x -> x.part(12, i));
        }
        edges.sentence("3: n is 1 to 10 to the 10");
        for (long n : NO_NUMBERS) {
            for (int i : new int[] {-2, -1, 0, Integer.MAX_VALUE}) {
                edges.bad("part(" + n + ", " + i + ")", x -> x.part(n, i));
            }
        }
    }

    private static void partIs(long n, int i, long due) {
        edges.told("part(" + n + ", " + i + ")", due, x -> x.part(n, i));
    }

    private static void prime() {
        edges.sentence("4: PRIMES of n, the least first, each as often as it goes in");
        primesAre(1);
        primesAre(2, 2);
        primesAre(4, 2, 2);
        primesAre(12, 2, 2, 3);
        primesAre(30, 2, 3, 5);
        primesAre(9998200081L, 99991, 99991);
        primesAre(9999999967L, 9999999967L);
        primesAre(6983776800L, 2, 2, 2, 2, 2, 3, 3, 3, 5, 5, 7, 11, 13, 17, 19);
        primesAre(MOST, 2, 2, 2, 2, 2, 2, 2, 2, 2, 2, 5, 5, 5, 5, 5, 5, 5, 5, 5, 5);
        // the greatest power of 2 has the most, ten unlike are the most
        edges.told("prime(2 to the 33, -1)", 33, x -> x.prime(1L << 33, -1));
        edges.told("prime(2 to the 33, 32)", 2, x -> x.prime(1L << 33, 32));
        edges.none("prime(2 to the 33, 33)", x -> x.prime(1L << 33, 33));
        primesAre(6469693230L, 2, 3, 5, 7, 11, 13, 17, 19, 23, 29);
        edges.sentence("4: -1: how many; less is no place");
        for (int i : NO_PLACES) {
            edges.bad("prime(12, " + i + ")", x -> x.prime(12, i));
            edges.bad("prime(1, " + i + ")", x -> x.prime(1, i));
        }
        edges.sentence("4: n is 1 to 10 to the 10");
        for (long n : NO_NUMBERS) {
            for (int i : new int[] {-2, -1, 0, Integer.MAX_VALUE}) {
                edges.bad("prime(" + n + ", " + i + ")", x -> x.prime(n, i));
            }
        }
    }

    private static void primesAre(long n, long... due) {
        edges.told("prime(" + n + ", -1)", due.length, x -> x.prime(n, -1));
        for (int i = 0; i < due.length; i++) {
            int place = i;
            edges.told("prime(" + n + ", " + i + ")", due[i], x -> x.prime(n, place));
        }
        edges.none("prime(" + n + ", " + due.length + ")", x -> x.prime(n, due.length));
        edges.none("prime(" + n + ", greatest)", x -> x.prime(n, Integer.MAX_VALUE));
    }

    private static void chainInputs() {
        edges.sentence("5: a CHAIN by KIND 1, 2 or 3");
        chainIs(1, 30, 0, 15, 0, 259);
        chainIs(2, 30, 1, 0, 3, 54);
        chainIs(3, 30, 0, 2, 0, 41);
        for (int kind : new int[] {0, -1, 4, Integer.MIN_VALUE, Integer.MAX_VALUE}) {
            for (int what = 0; what <= 3; what++) {
                int w = what;
                edges.bad("chain(" + kind + ", 30, " + w + ")", x -> x.chain(kind, 30, w));
            }
        }
        edges.sentence("5: each KIND has a CHAIN of its own");
        GoesInto one = new GoesInto();
        long[] tails = {15, 0, 2};
        long[] next = {42, 42, 41};
        for (int time = 0; time < 6; time++) {
            int kind = time % 3 + 1;
            edges.due("chain(" + kind + ", 30, 1) of one object", one.chain(kind, 30, 1), tails[kind - 1]);
            edges.due("step(" + kind + ", 30, 1) of one object", one.step(kind, 30, 1), next[kind - 1]);
        }
        edges.sentence("5: n is 1 to 10 to the 10");
        for (int kind = 1; kind <= 3; kind++) {
            int k = kind;
            chainIs(k, 1, 0, 1, 0, 1);
            for (long n : NO_NUMBERS) {
                edges.bad("chain(" + k + ", " + n + ", 0)", x -> x.chain(k, n, 0));
                edges.bad("chain(" + k + ", " + n + ", 3)", x -> x.chain(k, n, 3));
            }
        }
        chainIs(1, MOST, 2, 1, 0, MOST);
        chainIs(2, MOST, 2, 84, 0, MOST);
        chainIs(3, MOST, 2, 1, 0, MOST);
        edges.sentence("5: what is 0 to 3");
        for (int what : new int[] {-1, 4, Integer.MIN_VALUE, Integer.MAX_VALUE}) {
            edges.bad("chain(1, 30, " + what + ")", x -> x.chain(1, 30, what));
        }
    }

    private static void chainIs(int kind, long n, int ending, int tail, int round, long greatest) {
        String call = "chain(" + kind + ", " + n + ", ";
        edges.told(call + "0)", ending, x -> x.chain(kind, n, 0));
        edges.told(call + "1)", tail, x -> x.chain(kind, n, 1));
        edges.told(call + "2)", round, x -> x.chain(kind, n, 2));
        edges.told(call + "3)", greatest, x -> x.chain(kind, n, 3));
    }

    private static void chainEnds() {
        edges.sentence("5: it ENDS at 0; TAIL: how many are ahead of 0; ROUND 0: it does not");
        chainIs(1, 1, 0, 1, 0, 1);
        chainIs(1, 2, 0, 2, 0, 2);
        chainIs(1, 12, 0, 7, 0, 16);
        chainIs(2, 4, 0, 2, 0, 4);
        chainIs(3, 2, 0, 1, 0, 2);
        chainIs(3, 9999999967L, 0, 1, 0, 9999999967L);
    }

    private static void chainComesRound() {
        edges.sentence("5: it COMES ROUND; TAIL: how many are ahead of the first that comes again");
        chainIs(1, 6, 1, 0, 1, 6);
        chainIs(1, 25, 1, 1, 1, 25);
        chainIs(1, 220, 1, 0, 2, 284);
        chainIs(1, 284, 1, 0, 2, 284);
        chainIs(1, 562, 1, 1, 2, 562);
        chainIs(2, 100, 1, 1, 3, 100);
        chainIs(2, 140, 1, 2, 3, 140);
        chainIs(1, 14316, 1, 0, 28, 629072);
    }

    /** No number has 10 to the 10 as a SUM, nor one more: these are the nearest on both sides. */
    private static void chainLostAbove() {
        edges.sentence("5: it is LOST, if a number above 10 to the 10 comes, which is not told");
        chainIs(1, 4484427780L, 2, 2, 0, 9999999996L);
        chainIs(1, 7600055980L, 2, 1, 0, 7600055980L);
        chainIs(2, 9999999810L, 2, 32, 0, 9999999990L);
        chainIs(2, 9858154386L, 2, 1, 0, 9858154386L);
        chainIs(3, 4484427780L, 0, 18, 0, 9999999995L);
        chainIs(3, 7600055980L, 2, 1, 0, 7600055980L);
        edges.told("step(1, 4484427780, 1)", 9999999996L, x -> x.step(1, 4484427780L, 1));
        edges.none("step(1, 4484427780, 2)", x -> x.step(1, 4484427780L, 2));
        chainIs(1, 276, 2, 46, 0, 9344070708L);
        chainIs(1, 138, 2, 112, 0, 8030724504L);
    }

    private static void chainLostBehind200() {
        edges.sentence("5: it is LOST, if n and 200 more are told and neither is so");
        // 0 is the last of 200 more; then it would be one later
        chainIs(1, 192920, 0, 200, 0, 2931425228L);
        chainIs(1, 152680, 2, 201, 0, 2931425228L);
        chainIs(2, 52770, 0, 200, 0, 11301678);
        chainIs(2, 33630, 2, 201, 0, 11301678);
        // a number that was there is the last of 200 more; then it would be one later
        chainIs(2, 27078, 1, 198, 2, 94218606);
        chainIs(2, 17850, 2, 201, 0, 94218606);
        // one above 10 to the 10 is the last of 200 more; then there is none
        chainIs(2, 130866, 2, 200, 0, 9077887902L);
        chainIs(1, 5082, 2, 201, 0, 956557384);
        chainIs(2, 6870, 2, 201, 0, 94218606);
    }

    private static void stepInputs() {
        edges.sentence("6: the i-th number of a CHAIN (0: n); there is no -1");
        for (int kind = 1; kind <= 3; kind++) {
            int k = kind;
            stepIs(k, 1, 0, 1);
            stepIs(k, 12, 0, 12);
            stepIs(k, MOST, 0, MOST);
            edges.bad("step(" + k + ", 12, -1)", x -> x.step(k, 12, -1));
            edges.bad("step(" + k + ", 220, -1)", x -> x.step(k, 220, -1));
            for (int i : NO_PLACES) {
                edges.bad("step(" + k + ", 12, " + i + ")", x -> x.step(k, 12, i));
            }
        }
        stepIs(1, 12, 1, 16);
        stepIs(2, 12, 1, 8);
        stepIs(3, 12, 1, 15);
        edges.sentence("6: by KIND 1, 2 or 3");
        for (int kind : new int[] {0, -1, 4, Integer.MIN_VALUE, Integer.MAX_VALUE}) {
            edges.bad("step(" + kind + ", 12, 0)", x -> x.step(kind, 12, 0));
            edges.bad("step(" + kind + ", 12, 1)", x -> x.step(kind, 12, 1));
        }
        edges.sentence("6: n is 1 to 10 to the 10");
        for (long n : NO_NUMBERS) {
            edges.bad("step(1, " + n + ", 0)", x -> x.step(1, n, 0));
            edges.bad("step(3, " + n + ", 1)", x -> x.step(3, n, 1));
        }
    }

    private static void stepIs(int kind, long n, int i, long due) {
        edges.told("step(" + kind + ", " + n + ", " + i + ")", due, x -> x.step(kind, n, i));
    }

    private static void stepGoesOn() {
        edges.sentence("6: it goes on round");
        long[] ring = {562, 284, 220, 284, 220, 284};
        for (int i = 0; i < ring.length; i++) {
            stepIs(1, 562, i, ring[i]);
        }
        long[] longer = {140, 100, 30, 42, 54, 30, 42, 54, 30};
        for (int i = 0; i < longer.length; i++) {
            stepIs(2, 140, i, longer[i]);
        }
        // the greatest place is one more than threes
        stepIs(2, 140, Integer.MAX_VALUE, 54);
        stepIs(1, 562, Integer.MAX_VALUE - 1, 220);
        stepIs(1, 562, Integer.MAX_VALUE, 284);
        stepIs(1, 25, 1, 6);
        stepIs(1, 25, 2, 6);
        stepIs(1, 25, Integer.MAX_VALUE, 6);
        stepIs(2, 30, 2, 54);
        stepIs(2, 30, 3, 30);
        stepIs(1, 14316, 27, 17716);
        stepIs(1, 14316, 28, 14316);
        // the ring is closed by the last of 200 more
        stepIs(2, 27078, 198, 56430);
        stepIs(2, 27078, 199, 64530);
        stepIs(2, 27078, 200, 56430);
        stepIs(2, 27078, 201, 64530);
    }

    private static void stepBehind() {
        edges.sentence("6: NONE: behind its end (0 itself is told)");
        stepIs(1, 12, 6, 1);
        stepIs(1, 12, 7, 0);
        edges.none("step(1, 12, 8)", x -> x.step(1, 12, 8));
        edges.none("step(1, 12, greatest)", x -> x.step(1, 12, Integer.MAX_VALUE));
        for (int kind = 1; kind <= 3; kind++) {
            int k = kind;
            stepIs(k, 1, 1, 0);
            edges.none("step(" + k + ", 1, 2)", x -> x.step(k, 1, 2));
        }
        stepIs(1, 192920, 199, 1);
        stepIs(1, 192920, 200, 0);
        edges.none("step(1, 192920, 201)", x -> x.step(1, 192920, 201));
        edges.sentence("6: NONE: what LOST it");
        stepIs(1, 7600055980L, 0, 7600055980L);
        edges.none("step(1, 7600055980, 1)", x -> x.step(1, 7600055980L, 1));
        stepIs(1, 276, 45, 9344070708L);
        edges.none("step(1, 276, 46)", x -> x.step(1, 276, 46));
        edges.none("step(1, 276, greatest)", x -> x.step(1, 276, Integer.MAX_VALUE));
        stepIs(1, 152680, 199, 41);
        stepIs(1, 152680, 200, 1);
        edges.none("step(1, 152680, 201)", x -> x.step(1, 152680, 201));
        stepIs(1, 5082, 200, 1190);
        edges.none("step(1, 5082, 201)", x -> x.step(1, 5082, 201));
        edges.none("step(1, 5082, greatest)", x -> x.step(1, 5082, Integer.MAX_VALUE));
        stepIs(2, 17850, 200, 64530);
        edges.none("step(2, 17850, 201)", x -> x.step(2, 17850, 201));
    }

    private static void share() {
        edges.sentence("11: SUM of KIND 0 by n, in lowest terms");
        shareIs(1, 1, 1);
        shareIs(2, 3, 2);
        shareIs(6, 2, 1);
        shareIs(12, 7, 3);
        shareIs(120, 3, 1);
        shareIs(9999999967L, 9999999968L, 9999999967L);
        shareIs(6983776800L, 249984, 46189);
        shareIs(MOST, 24987792457L, MOST);
        edges.sentence("11: n is 1 to 10 to the 10");
        for (long n : NO_NUMBERS) {
            edges.bad("share(" + n + ", 0)", x -> x.share(n, 0));
            edges.bad("share(" + n + ", 1)", x -> x.share(n, 1));
        }
        edges.sentence("11: above (0), below (1)");
        for (int part : new int[] {-1, 2, Integer.MIN_VALUE, Integer.MAX_VALUE}) {
            edges.bad("share(12, " + part + ")", x -> x.share(12, part));
        }
    }

    private static void shareIs(long n, long above, long below) {
        edges.told("share(" + n + ", 0)", above, x -> x.share(n, 0));
        edges.told("share(" + n + ", 1)", below, x -> x.share(n, 1));
    }
}
