import java.math.BigInteger;
import java.util.ArrayList;
import java.util.Arrays;
import java.util.HashMap;
import java.util.List;
import java.util.Map;
import java.util.TreeSet;

/** The document's terms, told once more by their words alone: slow, and built in other ways than the class. */
final class Oracle {
    static final long LIMIT = 10_000_000_000L;

    private Oracle() {
    }

    static List<Long> parts(long n) {
        TreeSet<Long> all = new TreeSet<>();
        for (long d = 1; d * d <= n; d++) {
            if (n % d == 0) {
                all.add(d);
                all.add(n / d);
            }
        }
        return new ArrayList<>(all);
    }

    static List<Long> primes(long n) {
        List<Long> all = new ArrayList<>();
        long rest = n;
        for (long d = 2; d * d <= rest; d++) {
            while (rest % d == 0) {
                all.add(d);
                rest /= d;
            }
        }
        if (rest > 1) {
            all.add(rest);
        }
        return all;
    }

    static long gcd(long a, long b) {
        return BigInteger.valueOf(a).gcd(BigInteger.valueOf(b)).longValue();
    }

    static long sum(int kind, long n) {
        long all = 0;
        for (long d : parts(n)) {
            boolean counts = kind == 0
                    || kind == 1 && d != n
                    || kind == 2 && d != n && gcd(d, n / d) == 1
                    || kind == 3 && d != n && d != 1;
            all += counts ? d : 0;
        }
        return all;
    }

    /** What a chain is: how it ends (0, 1, 2), its tail, its round, and the numbers told. */
    static final class Walk {
        int ending = 2;
        int tail;
        int round = 0;
        final List<Long> told = new ArrayList<>();

        long greatest() {
            long most = 0;
            for (long x : told) {
                most = Math.max(most, x);
            }
            return most;
        }

        long step(int i) {
            if (ending == 1) {
                int place = i;
                while (place >= told.size()) {
                    place -= round;
                }
                return told.get(place);
            }
            if (i < told.size()) {
                return told.get(i);
            }
            return ending == 0 && i == told.size() ? 0 : GoesInto.NONE;
        }
    }

    static Walk walk(int kind, long n) {
        Walk w = new Walk();
        Map<Long, Integer> places = new HashMap<>();
        long x = n;
        while (true) {
            if (x == 0) {
                w.ending = 0;
                break;
            }
            if (places.containsKey(x)) {
                w.ending = 1;
                w.round = w.told.size() - places.get(x);
                w.tail = places.get(x);
                return w;
            }
            if (x > LIMIT) {
                break;
            }
            places.put(x, w.told.size());
            w.told.add(x);
            if (w.told.size() == 201) {
                break;
            }
            x = sum(kind, x);
        }
        w.tail = w.told.size();
        return w;
    }

    /** The sums of all numbers up to a bound, each part added to all its multiples. */
    static int[] sums(int kind, int bound) {
        int[] row = new int[bound + 1];
        for (int d = 1; d <= bound; d++) {
            for (int n = d; n <= bound; n += d) {
                boolean counts = kind == 0
                        || kind == 1 && d != n
                        || kind == 2 && d != n && smallGcd(d, n / d) == 1
                        || kind == 3 && d != n && d != 1;
                row[n] += counts ? d : 0;
            }
        }
        return row;
    }

    private static int smallGcd(int a, int b) {
        return b == 0 ? a : smallGcd(b, a % b);
    }

    static List<Integer> rings(int[] sums, int length, int bound) {
        List<Integer> found = new ArrayList<>();
        for (int n = 1; n <= bound; n++) {
            List<Integer> ring = new ArrayList<>();
            int x = n;
            while (x >= 1 && x <= bound && !ring.contains(x) && ring.size() < length + 1) {
                ring.add(x);
                x = sums[x];
            }
            boolean least = true;
            for (int y : ring) {
                least = least && y >= n;
            }
            if (x == n && ring.size() == length && least) {
                found.add(n);
            }
        }
        return found;
    }

    static List<Integer> having(int[] sums, int m, int bound) {
        List<Integer> found = new ArrayList<>();
        for (int n = 1; n <= bound; n++) {
            if (sums[n] == m) {
                found.add(n);
            }
        }
        return found;
    }

    static List<Integer> friends(int[] all, int n, int bound) {
        List<Integer> found = new ArrayList<>();
        long g = gcd(all[n], n);
        for (int x = 1; x <= bound; x++) {
            long h = smallGcd(all[x], x);
            if (x != n && all[x] / h == all[n] / g && x / h == n / g) {
                found.add(x);
            }
        }
        return found;
    }

    static int reached(int[] all, int a, int b, int bound) {
        for (int n = 1; n <= bound; n++) {
            if ((long) all[n] * b >= (long) a * n) {
                return n;
            }
        }
        return GoesInto.NONE;
    }

    static List<Integer> records(int[] all, int sort, int bound) {
        List<Integer> found = new ArrayList<>();
        for (int n = 1; n <= bound; n++) {
            boolean first = true;
            for (int k = 0; k < found.size() && first; k++) {
                int x = found.get(k);
                first = sort == 0 ? all[n] > all[x] : (long) all[n] * x > (long) all[x] * n;
            }
            if (first) {
                found.add(n);
            }
        }
        return found;
    }

    static int sort(int[] all, int n) {
        int parts = all[n] - n;
        if (parts < n) {
            return 0;
        }
        if (parts == n) {
            return 1;
        }
        for (int d = 1; d < n; d++) {
            if (n % d == 0 && all[d] - d > d) {
                return 2;
            }
        }
        return 3;
    }

    /** Sums of so many parts as bits of one great number, a row of them by how many parts. */
    static int made(int n) {
        List<Long> parts = parts(n);
        parts.remove(parts.size() - 1);
        long total = 0;
        for (long d : parts) {
            total += d;
        }
        if (total < n) {
            return GoesInto.NONE;
        }
        BigInteger mask = BigInteger.ONE.shiftLeft(n + 1).subtract(BigInteger.ONE);
        BigInteger[] by = new BigInteger[parts.size() + 1];
        Arrays.fill(by, BigInteger.ZERO);
        by[0] = BigInteger.ONE;
        for (int k = 0; k < parts.size(); k++) {
            for (int many = k + 1; many >= 1; many--) {
                if (by[many - 1].signum() != 0) {
                    by[many] = by[many].or(by[many - 1].shiftLeft(parts.get(k).intValue()).and(mask));
                }
            }
        }
        for (int many = 1; many < by.length; many++) {
            if (by[many].testBit(n)) {
                return many;
            }
        }
        return GoesInto.NONE;
    }

    static int falling(int[] sums, int m, int k, int bound) {
        int many = 0;
        for (int n = 1; n <= bound; n++) {
            int x = n;
            boolean comes = false;
            for (int step = 0; step <= k && x >= 1 && x <= bound && !comes; step++) {
                comes = x == m;
                x = sums[x];
            }
            many += comes ? 1 : 0;
        }
        return many;
    }
}
