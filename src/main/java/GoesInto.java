import java.util.Arrays;

/**
 * What goes into a number: sums of its parts, chains and rings of such sums, numbers that have a told
 * sum or share, records, parts that make a number together, and wishes told in a text.
 *
 * <p>No call throws: what can't be answered is told by BAD, NO, FULL or NONE. Rows are made once, when
 * they are first needed, and used again by all later calls.
 */
public final class GoesInto {
    public static final int BAD = -1, NO = -2, FULL = -3, NONE = -4;

    private static final long GREATEST = 10000000000L;
    private static final int BOUND = 50000;
    private static final int WISH_BOUND = 5000;
    private static final int HOW_MANY = -1;
    private static final int WIDEST_GAP = 1093;
    private static final int ALL = 0, BUT_ITSELF = 1, APART = 2, INNER = 3;

    private final Primes primes;
    private final Split split;
    private final Chain lastChain;
    private final Tables tables;
    private final Seeker seeker;
    private final Whole whole;
    private final Maker maker;
    private final Traits traits;
    private final Wishes wishes;

    public GoesInto() {
        Scratch scratch = new Scratch();
        primes = new Primes(scratch);
        split = new Split(primes);
        lastChain = new Chain(split);
        tables = new Tables(scratch);
        seeker = new Seeker(tables, scratch);
        whole = new Whole(split, primes);
        maker = new Maker(split, scratch);
        traits = new Traits(split, tables, maker);
        wishes = new Wishes(traits);
    }

    // ---- numbers

    public long sum(int kind, long n) {
        if (!within(kind, ALL, INNER) || !isNumber(n)) {
            return BAD;
        }
        primes.prepare();
        return split.summed(kind, n);
    }

    public long part(long n, int i) {
        if (!isNumber(n) || i < HOW_MANY) {
            return BAD;
        }
        primes.prepare();
        split.splitUp(n);
        return i == HOW_MANY ? split.howManyParts() : split.partAt(i);
    }

    public long prime(long n, int i) {
        if (!isNumber(n) || i < HOW_MANY) {
            return BAD;
        }
        primes.prepare();
        split.splitUp(n);
        return i == HOW_MANY ? split.howManyPrimes() : split.primeAt(i);
    }

    public long chain(int kind, long n, int what) {
        if (!within(kind, BUT_ITSELF, INNER) || !isNumber(n) || !within(what, 0, 3)) {
            return BAD;
        }
        primes.prepare();
        lastChain.follow(kind, n);
        switch (what) {
            case 0:
                return lastChain.ending;
            case 1:
                return lastChain.tail;
            case 2:
                return lastChain.round;
            default:
                return lastChain.greatest;
        }
    }

    public long step(int kind, long n, int i) {
        if (!within(kind, BUT_ITSELF, INNER) || !isNumber(n) || i < 0) {
            return BAD;
        }
        primes.prepare();
        lastChain.follow(kind, n);
        return lastChain.numberAt(i);
    }

    // ---- up to a bound

    public int rings(int kind, int length, int bound, int i) {
        if (!within(kind, BUT_ITSELF, INNER) || !within(length, 1, 9) || !isBound(bound) || i < HOW_MANY) {
            return BAD;
        }
        tables.prepare();
        return seeker.ringAt(kind, length, bound, i);
    }

    public int having(int kind, int m, int bound, int i) {
        if (!within(kind, ALL, INNER) || !within(m, 0, 100000) || !isBound(bound) || i < HOW_MANY) {
            return BAD;
        }
        tables.prepare();
        return seeker.havingAt(kind, m, bound, i);
    }

    public int wholly(int m, int i) {
        if (!within(m, 1, 1000000) || i < HOW_MANY) {
            return BAD;
        }
        primes.prepare();
        whole.seek(m);
        return i == HOW_MANY ? whole.howMany() : whole.numberAt(i);
    }

    public int bare(int m) {
        if (!within(m, 2, 200)) {
            return BAD;
        }
        // A number that is no prime has a part of at least its root, so its sum tells how great it can be.
        int most = (m - 1) * (m - 1);
        tables.prepare();
        return seeker.havingAt(BUT_ITSELF, m, most, 0) == NONE ? 1 : 0;
    }

    public long share(long n, int part) {
        if (!isNumber(n) || !within(part, 0, 1)) {
            return BAD;
        }
        primes.prepare();
        long above = split.summed(ALL, n);
        long common = commonPart(above, n);
        if (common < 1) {
            return BAD;
        }
        return part == 0 ? above / common : n / common;
    }

    public int friends(int n, int bound, int i) {
        if (!isBound(n) || !isBound(bound) || i < HOW_MANY) {
            return BAD;
        }
        tables.prepare();
        return seeker.friendAt(n, bound, i);
    }

    public int reached(int a, int b, int bound) {
        if (!within(a, 1, 1000) || !within(b, 1, 1000) || !isBound(bound)) {
            return BAD;
        }
        tables.prepare();
        return seeker.firstReaching(a, b, bound);
    }

    public int records(int sort, int bound, int i) {
        if (!within(sort, 0, 1) || !isBound(bound) || i < HOW_MANY) {
            return BAD;
        }
        tables.prepare();
        return seeker.recordAt(sort, bound, i);
    }

    public int sort(int n) {
        if (!isBound(n)) {
            return BAD;
        }
        primes.prepare();
        tables.prepare();
        int parts = tables.summed(BUT_ITSELF, n);
        if (parts <= n) {
            return parts < n ? 0 : 1;
        }
        return hasRichPart(n) ? 2 : 3;
    }

    public int made(int n) {
        if (!within(n, 1, WISH_BOUND)) {
            return BAD;
        }
        primes.prepare();
        return maker.fewest(n);
    }

    public int falling(int kind, int m, int k, int bound) {
        if (!within(kind, BUT_ITSELF, INNER) || !isBound(m) || !within(k, 0, 50) || !isBound(bound)) {
            return BAD;
        }
        tables.prepare();
        return seeker.howManyFall(kind, m, k, bound);
    }

    // ---- wishes

    public int write(int n, long v) {
        if (!within(n, 1, 8)) {
            return BAD;
        }
        return wishes.append(n, v);
    }

    public int wipe() {
        return wishes.clear();
    }

    public int fault() {
        return wishes.firstFault();
    }

    public int wished(int bound, int i) {
        if (!within(bound, 1, WISH_BOUND) || i < HOW_MANY) {
            return BAD;
        }
        if (wishes.firstFault() != NONE) {
            return NO;
        }
        prepareTraits();
        return wishes.numberAt(bound, i);
    }

    public int holds(int n) {
        if (!within(n, 1, WISH_BOUND)) {
            return BAD;
        }
        if (wishes.firstFault() != NONE) {
            return NO;
        }
        prepareTraits();
        return wishes.agrees(n) ? 1 : 0;
    }

    public int count(int what) {
        if (!within(what, 0, 1)) {
            return BAD;
        }
        return what == 0 ? wishes.length : wishes.howManyLook();
    }

    // ---- what several calls use

    private static boolean within(int value, int least, int most) {
        return value >= least && value <= most;
    }

    private static boolean isNumber(long n) {
        return n >= 1 && n <= GREATEST;
    }

    private static boolean isBound(int n) {
        return within(n, 1, BOUND);
    }

    private void prepareTraits() {
        primes.prepare();
        tables.prepare();
        traits.prepare();
    }

    private static long commonPart(long a, long b) {
        long greater = a;
        long less = b;
        for (int i = 0; i < 200 && less != 0; i++) {
            long rest = greater % less;
            greater = less;
            less = rest;
        }
        return greater;
    }

    /** What is RICH stays so when it is multiplied: only the greatest parts need a look. */
    private boolean hasRichPart(int n) {
        split.splitUp(n);
        for (int k = 0; k < split.unlike; k++) {
            int part = (int) split.without(k);
            if (tables.summed(BUT_ITSELF, part) > part) {
                return true;
            }
        }
        return false;
    }

    /** By gaps that shrink to 1 (1093, 364, 121, 40, 13, 4, 1), which needs no second row. */
    private static void putInOrder(long[] row, int many) {
        for (int gap = WIDEST_GAP; gap >= 1; gap /= 3) {
            for (int i = gap; i < many && i < row.length; i++) {
                long moved = row[i];
                int free = i;
                for (int j = i - gap; j >= 0 && row[j] > moved; j -= gap) {
                    row[free] = row[j];
                    free = j;
                }
                row[free] = moved;
            }
        }
    }

    /** One long row that several classes use in turn; none may count on what it left there. */
    private static final class Scratch {
        private int[] row = new int[0];

        int[] borrowed() {
            if (row.length == 0) {
                row = new int[BOUND + 1];
            }
            return row;
        }

        int[] cleared() {
            int[] all = borrowed();
            Arrays.fill(all, 0);
            return all;
        }
    }

    /** The primes up to the root of the greatest number. */
    private static final class Primes {
        private static final int ODD_NUMBERS = 50000;
        private static final int MANY = 9592;

        private final Scratch scratch;
        private int[] list = new int[0];

        Primes(Scratch scratch) {
            this.scratch = scratch;
        }

        /** Place i of the row of crosses stands for the odd number 2 i + 1. */
        void prepare() {
            if (list.length > 0) {
                return;
            }
            list = new int[MANY];
            int[] crossed = scratch.cleared();
            list[0] = 2;
            int many = 1;
            for (int i = 1; i < ODD_NUMBERS && i < crossed.length && many < list.length; i++) {
                if (crossed[i] == 0) {
                    int p = 2 * i + 1;
                    list[many] = p;
                    many++;
                    crossMultiples(crossed, p);
                }
            }
        }

        private static void crossMultiples(int[] crossed, int p) {
            if (p < 3 || p > 400) {
                return;
            }
            for (int i = p * p / 2; i < ODD_NUMBERS && i < crossed.length; i += p) {
                crossed[i] = 1;
            }
        }
    }

    /** A number split into its primes, and what follows from them; the last split is kept. */
    private static final class Split {
        private static final int MOST_UNLIKE = 12;
        private static final int MOST_PARTS = 2304;

        private final Primes primes;
        private final long[] prime = new long[MOST_UNLIKE];
        private final int[] times = new int[MOST_UNLIKE];
        private int unlike = 0;
        private long number = 1;
        private final long[] parts = new long[MOST_PARTS];
        private int partsKept = 0;
        private long partsNumber = 0;

        Split(Primes primes) {
            this.primes = primes;
        }

        void splitUp(long n) {
            if (n == number) {
                return;
            }
            number = n;
            unlike = 0;
            int[] list = primes.list;
            long rest = n;
            for (int k = 0; k < list.length; k++) {
                long p = list[k];
                if (p < 2 || p * p > rest) {
                    break;
                }
                if (rest % p == 0) {
                    rest = takeOut(p, rest);
                }
            }
            if (rest > 1) {
                takeOut(rest, rest);
            }
        }

        private long takeOut(long p, long whole) {
            long rest = whole;
            int often = 0;
            for (int e = 0; e < 64 && p > 1 && rest % p == 0; e++) {
                rest /= p;
                often++;
            }
            if (unlike < MOST_UNLIKE) {
                prime[unlike] = p;
                times[unlike] = often;
                unlike++;
            }
            return rest;
        }

        long summed(int kind, long n) {
            splitUp(n);
            switch (kind) {
                case ALL:
                    return sumOfAll();
                case BUT_ITSELF:
                    return sumOfAll() - n;
                case APART:
                    return sumOfApart() - n;
                default:
                    return n == 1 ? 0 : sumOfAll() - n - 1;
            }
        }

        private long sumOfAll() {
            long product = 1;
            for (int k = 0; k < unlike && k < MOST_UNLIKE; k++) {
                long powers = 1;
                for (int e = 0; e < times[k]; e++) {
                    powers = powers * prime[k] + 1;
                }
                product *= powers;
            }
            return product;
        }

        private long sumOfApart() {
            long product = 1;
            for (int k = 0; k < unlike && k < MOST_UNLIKE; k++) {
                long power = 1;
                for (int e = 0; e < times[k]; e++) {
                    power *= prime[k];
                }
                product *= power + 1;
            }
            return product;
        }

        int howManyPrimes() {
            int many = 0;
            for (int k = 0; k < unlike && k < MOST_UNLIKE; k++) {
                many += times[k];
            }
            return many;
        }

        long primeAt(int i) {
            int before = 0;
            for (int k = 0; k < unlike && k < MOST_UNLIKE; k++) {
                before += times[k];
                if (i < before) {
                    return prime[k];
                }
            }
            return NONE;
        }

        int timesAt(int k) {
            return k >= 0 && k < unlike && k < MOST_UNLIKE ? times[k] : 0;
        }

        /** The number without its k-th unlike prime, once. */
        long without(int k) {
            if (k < 0 || k >= unlike || k >= MOST_UNLIKE || prime[k] < 2) {
                return number;
            }
            return number / prime[k];
        }

        int howManyParts() {
            int many = 1;
            for (int k = 0; k < unlike && k < MOST_UNLIKE; k++) {
                many *= times[k] + 1;
            }
            return many;
        }

        long partAt(int i) {
            listParts();
            return i >= 0 && i < partsKept && i < MOST_PARTS ? parts[i] : NONE;
        }

        void listParts() {
            if (partsNumber == number) {
                return;
            }
            partsNumber = number;
            parts[0] = 1;
            partsKept = 1;
            for (int k = 0; k < unlike && k < MOST_UNLIKE; k++) {
                int from = 0;
                int block = partsKept;
                for (int e = 0; e < times[k]; e++) {
                    appendMultiples(from, block, prime[k]);
                    from += block;
                }
            }
            putInOrder(parts, partsKept);
        }

        private void appendMultiples(int from, int block, long p) {
            for (int j = from; j < from + block && j < partsKept && partsKept < MOST_PARTS; j++) {
                parts[partsKept] = parts[j] * p;
                partsKept++;
            }
        }
    }

    /** A chain from sum to sum; the last one is kept. */
    private static final class Chain {
        private static final int ENDS = 0, COMES_ROUND = 1, LOST = 2;
        private static final int MOST_TOLD = 201;

        private final Split split;
        private final long[] told = new long[MOST_TOLD];
        private int many = 0;
        private int kind = 0;
        private int ending = LOST;
        private int tail = 0;
        private int round = 0;
        private long greatest = 0;

        Chain(Split split) {
            this.split = split;
        }

        void follow(int by, long n) {
            if (by == kind && many > 0 && told[0] == n) {
                return;
            }
            kind = by;
            told[0] = n;
            many = 1;
            greatest = n;
            round = 0;
            boolean open = true;
            for (int i = 1; open && i < MOST_TOLD; i++) {
                open = goesOn(split.summed(kind, told[i - 1]));
            }
            if (open) {
                ending = LOST;
                tail = many;
            }
        }

        private boolean goesOn(long next) {
            if (next == 0 || next > GREATEST || many >= MOST_TOLD) {
                ending = next == 0 ? ENDS : LOST;
                tail = many;
                return false;
            }
            int first = placeOf(next);
            if (first < many) {
                ending = COMES_ROUND;
                tail = first;
                round = many - first;
                return false;
            }
            told[many] = next;
            many++;
            greatest = Math.max(greatest, next);
            return true;
        }

        private int placeOf(long number) {
            for (int i = 0; i < many && i < MOST_TOLD; i++) {
                if (told[i] == number) {
                    return i;
                }
            }
            return many;
        }

        long numberAt(int i) {
            int place = i;
            if (ending == COMES_ROUND && i >= tail && round > 0) {
                place = tail + (i - tail) % round;
            }
            if (ending == ENDS && place == tail) {
                return 0;
            }
            return place >= 0 && place < many && place < MOST_TOLD ? told[place] : NONE;
        }
    }

    /** The sums of all numbers up to the greatest bound. */
    private static final class Tables {
        private final Scratch scratch;
        private int[] all = new int[0];
        private int[] apart = new int[0];

        Tables(Scratch scratch) {
            this.scratch = scratch;
        }

        void prepare() {
            if (all.length > 0) {
                return;
            }
            all = new int[BOUND + 1];
            apart = new int[BOUND + 1];
            fillIn(leastPrimes());
        }

        /** The least prime of each number that is no prime; 0 for a prime. */
        private int[] leastPrimes() {
            int[] least = scratch.cleared();
            for (int p = 2; p * p < least.length; p++) {
                if (least[p] != 0) {
                    continue;
                }
                for (int j = p * p; j < least.length; j += p) {
                    if (least[j] == 0) {
                        least[j] = p;
                    }
                }
            }
            return least;
        }

        /** A sum is that of the least prime's power times that of what is left without it. */
        private void fillIn(int[] least) {
            all[1] = 1;
            apart[1] = 1;
            for (int n = 2; n < all.length && n < apart.length && n < least.length; n++) {
                int p = least[n] < 2 ? n : least[n];
                int rest = n / p;
                int power = p;
                int powers = 1 + p;
                for (int e = 0; e < 32 && rest % p == 0; e++) {
                    rest /= p;
                    power *= p;
                    powers += power;
                }
                if (rest >= 1 && rest < n) {
                    all[n] = all[rest] * powers;
                    apart[n] = apart[rest] * (power + 1);
                }
            }
        }

        int summed(int kind, int n) {
            if (n < 1 || n >= all.length || n >= apart.length) {
                return 0;
            }
            switch (kind) {
                case ALL:
                    return all[n];
                case BUT_ITSELF:
                    return all[n] - n;
                case APART:
                    return apart[n] - n;
                default:
                    return n == 1 ? 0 : all[n] - n - 1;
            }
        }
    }

    /** Picks one of the numbers that fit, by its place among them, or tells how many there were. */
    private static final class Pick {
        private int wanted = HOW_MANY;
        private int seen = 0;

        void begin(int i) {
            wanted = i;
            seen = 0;
        }

        /** Is told of each number that fits, in turn. */
        boolean isNext() {
            boolean found = seen == wanted;
            seen++;
            return found;
        }

        int notFound() {
            return wanted == HOW_MANY ? seen : NONE;
        }
    }

    /** Looks for numbers up to a bound, from 1 on. */
    private static final class Seeker {
        private static final int UNKNOWN = 0, ON_THE_WAY = -1, NEVER = -2;

        private final Tables tables;
        private final Scratch scratch;
        private final Pick pick = new Pick();

        Seeker(Tables tables, Scratch scratch) {
            this.tables = tables;
            this.scratch = scratch;
        }

        int ringAt(int kind, int length, int bound, int i) {
            pick.begin(i);
            for (int n = 1; n <= bound; n++) {
                if (beginsRing(kind, length, bound, n) && pick.isNext()) {
                    return n;
                }
            }
            return pick.notFound();
        }

        private boolean beginsRing(int kind, int length, int bound, int least) {
            int x = least;
            for (int j = 1; j <= length; j++) {
                x = tables.summed(kind, x);
                if (x < least || x > bound) {
                    return false;
                }
                if (x == least) {
                    return j == length;
                }
            }
            return false;
        }

        int havingAt(int kind, int m, int bound, int i) {
            pick.begin(i);
            for (int n = 1; n <= bound; n++) {
                if (tables.summed(kind, n) == m && pick.isNext()) {
                    return n;
                }
            }
            return pick.notFound();
        }

        int friendAt(int n, int bound, int i) {
            long sumOfN = tables.summed(ALL, n);
            pick.begin(i);
            for (int other = 1; other <= bound; other++) {
                boolean sameShare = (long) tables.summed(ALL, other) * n == sumOfN * other;
                if (other != n && sameShare && pick.isNext()) {
                    return other;
                }
            }
            return pick.notFound();
        }

        int firstReaching(int a, int b, int bound) {
            for (int n = 1; n <= bound; n++) {
                if ((long) tables.summed(ALL, n) * b >= (long) a * n) {
                    return n;
                }
            }
            return NONE;
        }

        /** Sort 0 measures a sum by 1, sort 1 by the number itself. */
        int recordAt(int sort, int bound, int i) {
            long bestSum = 0;
            long bestMeasure = 1;
            pick.begin(i);
            for (int n = 1; n <= bound; n++) {
                long sumOfN = tables.summed(ALL, n);
                long measure = sort == 0 ? 1 : n;
                if (sumOfN * bestMeasure > bestSum * measure) {
                    if (pick.isNext()) {
                        return n;
                    }
                    bestSum = sumOfN;
                    bestMeasure = measure;
                }
            }
            return pick.notFound();
        }

        int howManyFall(int kind, int m, int k, int bound) {
            if (m > bound) {
                return 0;
            }
            int[] steps = scratch.cleared();
            if (m < 1 || bound >= steps.length) {
                return 0;
            }
            // A row of steps tells one more than they are: 0 stands for a number not yet looked at.
            steps[m] = 1;
            int many = 0;
            for (int n = 1; n <= bound; n++) {
                if (steps[n] == UNKNOWN) {
                    tellWay(kind, bound, n, steps);
                }
                if (steps[n] > 0 && steps[n] <= k + 1) {
                    many++;
                }
            }
            return many;
        }

        /** Goes from n to the first number whose steps are known, then tells them to all on the way. */
        private void tellWay(int kind, int bound, int n, int[] steps) {
            int length = 0;
            int x = n;
            for (int j = 0; j < BOUND && isOpen(x, bound, steps); j++) {
                steps[x] = ON_THE_WAY;
                x = tables.summed(kind, x);
                length++;
            }
            boolean falls = x >= 1 && x <= bound && x < steps.length && steps[x] > 0;
            int known = falls ? steps[x] : 0;
            x = n;
            for (int j = 0; j < length && x >= 1 && x < steps.length; j++) {
                steps[x] = falls ? known + length - j : NEVER;
                x = tables.summed(kind, x);
            }
        }

        private static boolean isOpen(int x, int bound, int[] steps) {
            return x >= 1 && x <= bound && x < steps.length && steps[x] == UNKNOWN;
        }
    }

    /** All numbers that have a told sum of all parts; those of the last sum are kept. */
    private static final class Whole {
        private static final int MOST_POWERS = 400;
        private static final int MOST_FOUND = 640;
        private static final int DEEPEST = 12;

        private final Split split;
        private final Primes primes;
        // The powers of primes whose sum of all parts divides the told sum, by that sum rising.
        private final long[] base = new long[MOST_POWERS];
        private final long[] power = new long[MOST_POWERS];
        private final long[] powerSum = new long[MOST_POWERS];
        private int powers = 0;
        private final long[] found = new long[MOST_FOUND];
        private int many = 0;
        private long told = 0;

        Whole(Split split, Primes primes) {
            this.split = split;
            this.primes = primes;
        }

        void seek(long m) {
            if (m == told) {
                return;
            }
            told = m;
            powers = 0;
            many = 0;
            keepPrimes(m);
            keepPowers(m);
            if (m == 1) {
                keepFound(1);
            }
            join(m, 1, 0, 0);
            putInOrder(found, many);
        }

        int howMany() {
            return many;
        }

        int numberAt(int i) {
            return i >= 0 && i < many && i < MOST_FOUND ? (int) found[i] : NONE;
        }

        private void keepPrimes(long m) {
            split.splitUp(m);
            int parts = split.howManyParts();
            for (int i = 0; i < parts; i++) {
                long sumOfPrime = split.partAt(i);
                if (isPrime(sumOfPrime - 1)) {
                    keepPower(sumOfPrime - 1, sumOfPrime - 1, sumOfPrime);
                }
            }
        }

        private boolean isPrime(long n) {
            int[] list = primes.list;
            for (int k = 0; k < list.length; k++) {
                long p = list[k];
                if (p < 2 || p * p > n) {
                    break;
                }
                if (n % p == 0) {
                    return false;
                }
            }
            return n > 1;
        }

        private void keepPowers(long m) {
            int[] list = primes.list;
            for (int k = 0; k < list.length; k++) {
                long p = list[k];
                if (p < 2 || p * p >= m) {
                    break;
                }
                long q = p;
                long sumOfPower = 1 + p;
                for (int e = 2; e < 64 && sumOfPower < m; e++) {
                    q *= p;
                    sumOfPower += q;
                    if (sumOfPower > 1 && m % sumOfPower == 0) {
                        keepPower(p, q, sumOfPower);
                    }
                }
            }
        }

        private void keepPower(long p, long q, long sumOfPower) {
            if (powers >= MOST_POWERS) {
                return;
            }
            int place = powers;
            for (int j = powers - 1; j >= 0 && powerSum[j] > sumOfPower; j--) {
                base[j + 1] = base[j];
                power[j + 1] = power[j];
                powerSum[j + 1] = powerSum[j];
                place = j;
            }
            base[place] = p;
            power[place] = q;
            powerSum[place] = sumOfPower;
            powers++;
        }

        /** Takes powers of unlike primes, by rising sums from a place on, whose sums multiply to the rest. */
        private void join(long rest, long product, int from, int depth) {
            if (depth >= DEEPEST) {
                return;
            }
            for (int i = from; i < powers && i < MOST_POWERS; i++) {
                long s = powerSum[i];
                if (s < 2 || s > rest) {
                    break;
                }
                boolean last = s == rest;
                if (!last && s * s > rest || rest % s != 0 || base[i] < 2 || product % base[i] == 0) {
                    continue;
                }
                if (last) {
                    keepFound(product * power[i]);
                } else {
                    join(rest / s, product * power[i], i + 1, depth + 1);
                }
            }
        }

        private void keepFound(long number) {
            if (many < MOST_FOUND) {
                found[many] = number;
                many++;
            }
        }
    }

    /** The fewest parts of a number, without itself, that are it together. */
    private static final class Maker {
        private static final int TOO_MANY = 10000;

        private final Split split;
        private final Scratch scratch;

        Maker(Split split, Scratch scratch) {
            this.split = split;
            this.scratch = scratch;
        }

        int fewest(int n) {
            split.splitUp(n);
            split.listParts();
            int left = sumOfParts();
            int[] best = borrowed(n);
            if (left < n || n < 1 || n >= best.length) {
                return NONE;
            }
            best[0] = 0;
            int taken = 0;
            for (int i = 0; i < split.partsKept - 1 && i < split.parts.length; i++) {
                int part = (int) split.parts[i];
                left -= part;
                taken += part;
                // Below 'least' the parts still to come are too little to make n.
                int least = Math.max(part, n - left);
                int most = Math.min(n, taken);
                addPart(best, part, least, most);
            }
            return best[n] < TOO_MANY ? best[n] : NONE;
        }

        private int sumOfParts() {
            long all = 0;
            for (int i = 0; i < split.partsKept - 1 && i < split.parts.length; i++) {
                all += split.parts[i];
            }
            return (int) all;
        }

        private int[] borrowed(int n) {
            int[] row = scratch.borrowed();
            for (int s = 0; s <= n && s < row.length; s++) {
                row[s] = TOO_MANY;
            }
            return row;
        }

        private static void addPart(int[] best, int part, int least, int most) {
            if (part < 1 || least < part || most >= best.length) {
                return;
            }
            for (int s = most; s >= least; s--) {
                int many = best[s - part] + 1;
                if (many < best[s]) {
                    best[s] = many;
                }
            }
        }
    }

    /** What wishes can ask of each number: one bit for each token of Wishes.TOKENS that looks at a number. */
    private static final class Traits {
        private static final int RICH = 1, BARELY = 1 << 1, EXACT = 1 << 2, POOR = 1 << 3, ODD_ONE = 1 << 4;
        private static final int EVEN = 1 << 5, SQUARE = 1 << 6, SQUARE_FREE = 1 << 7, HIGH = 1 << 8, TOP = 1 << 9;
        private static final int FIGURES_BEFORE = 9;
        private static final int MADE = 1 << 20;

        private final Split split;
        private final Tables tables;
        private final Maker maker;
        private int[] traits = new int[0];

        Traits(Split split, Tables tables, Maker maker) {
            this.split = split;
            this.tables = tables;
            this.maker = maker;
        }

        boolean has(int n, int token) {
            return n >= 0 && n < traits.length && (traits[n] >> token & 1) == 1;
        }

        void prepare() {
            if (traits.length > 0) {
                return;
            }
            traits = new int[WISH_BOUND + 1];
            for (int n = 1; n < traits.length; n++) {
                split.splitUp(n);
                traits[n] = sortTraits(n) | primeTraits(n);
            }
            markRecords();
        }

        private int sortTraits(int n) {
            int parts = tables.summed(BUT_ITSELF, n);
            if (parts <= n) {
                return parts < n ? POOR : EXACT | MADE;
            }
            int ofParts = 0;
            for (int k = 0; k < split.unlike; k++) {
                int part = (int) split.without(k);
                if (part >= 1 && part < traits.length) {
                    ofParts |= traits[part];
                }
            }
            int barely = (ofParts & RICH) == 0 ? BARELY : 0;
            // What makes a part makes the number too, when each is multiplied.
            boolean made = (ofParts & MADE) != 0 || maker.fewest(n) != NONE;
            return RICH | barely | (made ? MADE : ODD_ONE);
        }

        private int primeTraits(int n) {
            boolean square = true;
            boolean free = true;
            for (int k = 0; k < split.unlike; k++) {
                int often = split.timesAt(k);
                square = square && often % 2 == 0;
                free = free && often == 1;
            }
            int figure = split.unlike > 0 ? 1 << FIGURES_BEFORE + split.unlike : 0;
            return (n % 2 == 0 ? EVEN : 0) | (square ? SQUARE : 0) | (free ? SQUARE_FREE : 0) | figure;
        }

        private void markRecords() {
            long highest = 0;
            long topSum = 0;
            long topNumber = 1;
            for (int n = 1; n < traits.length; n++) {
                long sumOfN = tables.summed(ALL, n);
                if (sumOfN > highest) {
                    highest = sumOfN;
                    traits[n] |= HIGH;
                }
                if (sumOfN * topNumber > topSum * n) {
                    topSum = sumOfN;
                    topNumber = n;
                    traits[n] |= TOP;
                }
            }
        }
    }

    /** The text of wishes; a byte that is told is kept as its place among the tokens, another as UNTOLD. */
    private static final class Wishes {
        private static final String TOKENS = "rbxpoeqfht123456789~&|^";
        private static final int UNTOLD = -1, NOT = 19, BOTH = 20, ONE_AT_LEAST = 21;
        private static final int LONGEST = 60;
        private static final int HIGHEST_PILE = 8;

        private final Traits traits;
        private final Pick pick = new Pick();
        private final int[] text = new int[LONGEST];
        private int length = 0;

        Wishes(Traits traits) {
            this.traits = traits;
        }

        int append(int n, long v) {
            if (length + n > LONGEST) {
                return FULL;
            }
            for (int left = n - 1; left >= 0 && length < LONGEST; left--) {
                int sign = (int) (v >>> 8 * left & 255);
                text[length] = TOKENS.indexOf((char) sign);
                length++;
            }
            return length;
        }

        int clear() {
            int before = length;
            length = 0;
            return before;
        }

        int howManyLook() {
            int many = 0;
            for (int i = 0; i < length && i < LONGEST; i++) {
                if (looks(text[i])) {
                    many++;
                }
            }
            return many;
        }

        private static boolean looks(int token) {
            return token > UNTOLD && token < NOT;
        }

        int firstFault() {
            int pile = 0;
            for (int i = 0; i < length && i < LONGEST; i++) {
                int token = text[i];
                int needed = looks(token) ? 0 : token == NOT ? 1 : 2;
                boolean tooMany = looks(token) && pile >= HIGHEST_PILE;
                if (token == UNTOLD || pile < needed || tooMany) {
                    return i;
                }
                pile += looks(token) ? 1 : token == NOT ? 0 : -1;
            }
            return pile == 1 ? NONE : length;
        }

        int numberAt(int bound, int i) {
            pick.begin(i);
            for (int n = 1; n <= bound; n++) {
                if (agrees(n) && pick.isNext()) {
                    return n;
                }
            }
            return pick.notFound();
        }

        /** The pile is kept in bits, the topmost the lowest. */
        boolean agrees(int n) {
            int pile = 0;
            for (int i = 0; i < length && i < LONGEST; i++) {
                int token = text[i];
                if (looks(token)) {
                    pile = pile << 1 | (traits.has(n, token) ? 1 : 0);
                } else if (token == NOT) {
                    pile ^= 1;
                } else {
                    pile = pile >> 2 << 1 | together(token, pile >> 1 & 1, pile & 1);
                }
            }
            return (pile & 1) == 1;
        }

        private static int together(int token, int below, int top) {
            if (token == BOTH) {
                return below & top;
            }
            return token == ONE_AT_LEAST ? below | top : below ^ top;
        }
    }
}
