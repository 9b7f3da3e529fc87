import java.util.List;
import java.util.Random;

/** Promises 2 to 6 and 11: sum, part, prime, chain, step, share. */
public final class NumbersTest {
    private static final Check check = new Check();
    private static final Users users = new Users();

    public static void main(String[] args) {
        for (long n = 1; n <= 400; n++) {
            lookAt(n);
        }
        Random random = new Random(20);
        for (int i = 0; i < 60; i++) {
            lookAt(1 + Math.floorMod(random.nextLong(), Oracle.LIMIT));
        }
        long[] special = {Oracle.LIMIT, Oracle.LIMIT - 1, 9999999967L, 9999800001L, 6983776800L, 6469693230L,
            8589934592L, 99991L * 99991L, 99989L * 99991L, 10460353203L / 3, 50000, 50001, 2147483648L, 4294967296L};
        for (long n : special) {
            lookAt(n);
        }
        chains();
        firstCalls();
        check.finish();
    }

    private static void lookAt(long n) {
        for (int kind = 0; kind <= 3; kind++) {
            check.due("sum(" + kind + ", " + n + ")", users.next().sum(kind, n), Oracle.sum(kind, n));
        }
        List<Long> parts = Oracle.parts(n);
        check.due("part(" + n + ", -1)", users.next().part(n, -1), parts.size());
        for (int i = 0; i < parts.size(); i += 1 + parts.size() / 50) {
            check.due("part(" + n + ", " + i + ")", users.next().part(n, i), parts.get(i));
        }
        check.due("last part of " + n, users.next().part(n, parts.size() - 1), n);
        check.due("behind the parts of " + n, users.next().part(n, parts.size()), GoesInto.NONE);
        check.due("part(" + n + ", greatest)", users.next().part(n, Integer.MAX_VALUE), GoesInto.NONE);
        List<Long> primes = Oracle.primes(n);
        check.due("prime(" + n + ", -1)", users.next().prime(n, -1), primes.size());
        for (int i = 0; i < primes.size(); i++) {
            check.due("prime(" + n + ", " + i + ")", users.next().prime(n, i), primes.get(i));
        }
        check.due("behind the primes of " + n, users.next().prime(n, primes.size()), GoesInto.NONE);
        check.due("prime(" + n + ", greatest)", users.next().prime(n, Integer.MAX_VALUE), GoesInto.NONE);
        long all = Oracle.sum(0, n);
        long common = Oracle.gcd(all, n);
        check.due("share(" + n + ", 0)", users.next().share(n, 0), all / common);
        check.due("share(" + n + ", 1)", users.next().share(n, 1), n / common);
    }

    /** A new object's first call meets nothing that was kept. */
    private static void firstCalls() {
        for (long n = 1; n <= 12; n++) {
            check.due("first: sum(0, " + n + ")", new GoesInto().sum(0, n), Oracle.sum(0, n));
            check.due("first: part(" + n + ", -1)", new GoesInto().part(n, -1), Oracle.parts(n).size());
            check.due("first: part(" + n + ", 0)", new GoesInto().part(n, 0), 1);
            check.due("first: prime(" + n + ", -1)", new GoesInto().prime(n, -1), Oracle.primes(n).size());
            check.due("first: chain(1, " + n + ", 1)", new GoesInto().chain(1, n, 1), Oracle.walk(1, n).tail);
            check.due("first: step(3, " + n + ", 1)", new GoesInto().step(3, n, 1), Oracle.walk(3, n).step(1));
            check.due("first: share(" + n + ", 1)", new GoesInto().share(n, 1), n / Oracle.gcd(n, Oracle.sum(0, n)));
        }
    }

    private static void chains() {
        for (int kind = 1; kind <= 3; kind++) {
            for (long n = 1; n <= 130; n++) {
                walk(kind, n);
            }
        }
        // ENDS with 0 as the last of 200 more
        walk(1, 192920);
        walk(2, 52770);
        check.due("chain(1, 192920, 0)", users.next().chain(1, 192920, 0), 0);
        check.due("chain(1, 192920, 1)", users.next().chain(1, 192920, 1), 200);
        check.due("step(1, 192920, 200)", users.next().step(1, 192920, 200), 0);
        // COMES ROUND at the last of 200 more
        walk(2, 27078);
        check.due("chain(2, 27078, 1)", users.next().chain(2, 27078, 1), 198);
        check.due("chain(2, 27078, 2)", users.next().chain(2, 27078, 2), 2);
        // LOST by 201 numbers told
        walk(1, 5082);
        walk(2, 6870);
        check.due("chain(1, 5082, 0)", users.next().chain(1, 5082, 0), 2);
        check.due("chain(1, 5082, 1)", users.next().chain(1, 5082, 1), 201);
        check.due("step(1, 5082, 201)", users.next().step(1, 5082, 201), GoesInto.NONE);
        // LOST, though 0 or a number that was there would come behind 200 more
        walk(1, 152680);
        walk(2, 33630);
        walk(2, 17850);
        check.due("chain(1, 152680, 0)", users.next().chain(1, 152680, 0), 2);
        check.due("chain(2, 17850, 0)", users.next().chain(2, 17850, 0), 2);
        // LOST by the last of 200 more
        walk(2, 130866);
        check.due("chain(2, 130866, 1)", users.next().chain(2, 130866, 1), 200);
        // lost at once, and great numbers
        walk(1, 6983776800L);
        walk(1, Oracle.LIMIT);
        walk(2, Oracle.LIMIT);
        walk(3, Oracle.LIMIT);
        walk(2, 9869651646L);
        walk(3, 7686406324L);
        walk(1, 14316);
        walk(3, 9999999967L);
    }

    private static void walk(int kind, long n) {
        Oracle.Walk due = Oracle.walk(kind, n);
        String of = "(" + kind + ", " + n + ", ";
        check.due("chain" + of + "0)", users.next().chain(kind, n, 0), due.ending);
        check.due("chain" + of + "1)", users.next().chain(kind, n, 1), due.tail);
        check.due("chain" + of + "2)", users.next().chain(kind, n, 2), due.round);
        check.due("chain" + of + "3)", users.next().chain(kind, n, 3), due.greatest());
        for (int i = 0; i <= due.told.size() + 3; i++) {
            check.due("step" + of + i + ")", users.next().step(kind, n, i), due.step(i));
        }
        int far = 1_000_003;
        check.due("step" + of + far + ")", users.next().step(kind, n, far), due.step(far));
        check.due("step of " + kind + ", " + n + " afar", users.next().step(kind, n, Integer.MAX_VALUE),
            due.ending == 1 ? due.step(due.tail + (Integer.MAX_VALUE - due.tail) % due.round) : GoesInto.NONE);
    }
}
