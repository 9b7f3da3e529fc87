import java.util.ArrayList;
import java.util.Collections;
import java.util.List;
import java.util.Random;

/** Promises 7 to 10 and 12 to 17: what is looked for up to a bound, or however great. */
public final class BoundsTest {
    private static final int[] BOUNDS = {1, 2, 5, 6, 29, 100, 1209, 1210, 3000, 15471, 15472, 49999, 50000};
    private static final Check check = new Check();
    private static final Users users = new Users();
    private static final int[][] sums = new int[4][];

    public static void main(String[] args) {
        for (int kind = 0; kind <= 3; kind++) {
            sums[kind] = Oracle.sums(kind, 50000);
        }
        rings();
        having();
        wholly();
        bare();
        friends();
        reached();
        records();
        sort();
        made();
        falling();
        check.finish();
    }

    private interface Asked {
        long at(int i);
    }

    private static void list(String call, List<Integer> due, Asked asked) {
        check.due(call + ", -1", asked.at(-1), due.size());
        int far = 1 + due.size() / 40;
        for (int i = 0; i < due.size(); i += far) {
            check.due(call + ", " + i, asked.at(i), due.get(i));
        }
        if (!due.isEmpty()) {
            check.due(call + ", the last", asked.at(due.size() - 1), due.get(due.size() - 1));
        }
        check.due(call + ", behind the last", asked.at(due.size()), GoesInto.NONE);
        check.due(call + ", the greatest place", asked.at(Integer.MAX_VALUE), GoesInto.NONE);
    }

    private static void rings() {
        for (int kind = 1; kind <= 3; kind++) {
            for (int length = 1; length <= 9; length++) {
                for (int bound : BOUNDS) {
                    int k = kind;
                    int l = length;
                    list("rings(" + k + ", " + l + ", " + bound, Oracle.rings(sums[k], l, bound),
                        i -> users.next().rings(k, l, bound, i));
                }
            }
        }
    }

    private static void having() {
        int[] wanted = {0, 1, 2, 3, 4, 6, 12, 31, 72, 720, 1000, 49999, 50000, 50001, 65520, 99999, 100000};
        for (int kind = 0; kind <= 3; kind++) {
            for (int m : wanted) {
                for (int bound : new int[] {1, 2, 70, 71, 5000, 50000}) {
                    int k = kind;
                    list("having(" + k + ", " + m + ", " + bound, Oracle.having(sums[k], m, bound),
                        i -> users.next().having(k, m, bound, i));
                }
            }
        }
    }

    private static void wholly() {
        int most = 1000000;
        int[] all = Oracle.sums(0, most);
        List<List<Integer>> by = new ArrayList<>(Collections.nCopies(most + 1, null));
        for (int n = 1; n <= most; n++) {
            if (all[n] <= most) {
                if (by.get(all[n]) == null) {
                    by.set(all[n], new ArrayList<>());
                }
                by.get(all[n]).add(n);
            }
        }
        Random random = new Random(9);
        for (int m = 1; m <= most; m++) {
            List<Integer> due = by.get(m) == null ? List.of() : by.get(m);
            int wanted = m;
            if (m <= 400 || m == 961 || m == most || m % 10080 == 0 || due.size() > 250 || random.nextInt(2000) == 0) {
                list("wholly(" + m, due, i -> users.next().wholly(wanted, i));
            } else {
                check.due("wholly(" + m + ", -1)", users.next().wholly(m, -1), due.size());
                check.due("wholly(" + m + ", the last)", users.next().wholly(m, due.size() - 1),
                    due.isEmpty() ? 0 : due.get(due.size() - 1));
            }
        }
    }

    private static void bare() {
        int[] far = Oracle.sums(1, 100000);
        boolean[] had = new boolean[201];
        for (int n = 1; n < far.length; n++) {
            if (far[n] <= 200) {
                had[far[n]] = true;
            }
        }
        for (int m = 2; m <= 200; m++) {
            check.due("bare(" + m + ")", users.next().bare(m), had[m] ? 0 : 1);
        }
    }

    private static void friends() {
        for (int n : new int[] {1, 2, 6, 12, 24, 28, 30, 80, 84, 200, 234, 240, 496, 2480, 8128, 6200, 49999, 50000}) {
            for (int bound : new int[] {1, 27, 28, 233, 234, 8128, 50000}) {
                list("friends(" + n + ", " + bound, Oracle.friends(sums[0], n, bound),
                    i -> users.next().friends(n, bound, i));
            }
        }
    }

    private static void reached() {
        int[][] shares = {{1, 1}, {1, 1000}, {3, 2}, {2, 1}, {9, 4}, {5, 2}, {14, 5}, {3, 1}, {7, 2}, {4, 1}, {41, 10},
            {5, 1}, {1000, 1}, {999, 1000}, {1000, 999}, {1000, 1000}, {1000, 250}, {1000, 333}};
        for (int[] share : shares) {
            for (int bound : BOUNDS) {
                check.due("reached(" + share[0] + ", " + share[1] + ", " + bound + ")",
                    users.next().reached(share[0], share[1], bound), Oracle.reached(sums[0], share[0], share[1], bound));
            }
        }
    }

    private static void records() {
        for (int sort = 0; sort <= 1; sort++) {
            for (int bound : BOUNDS) {
                int s = sort;
                list("records(" + s + ", " + bound, Oracle.records(sums[0], s, bound),
                    i -> users.next().records(s, bound, i));
            }
        }
    }

    private static void sort() {
        for (int n = 1; n <= 50000; n += n < 6000 ? 1 : 17) {
            check.due("sort(" + n + ")", users.next().sort(n), Oracle.sort(sums[0], n));
        }
        check.due("sort(50000)", users.next().sort(50000), Oracle.sort(sums[0], 50000));
    }

    private static void made() {
        for (int n = 1; n <= 5000; n++) {
            check.due("made(" + n + ")", users.next().made(n), Oracle.made(n));
        }
    }

    private static void falling() {
        for (int kind = 1; kind <= 3; kind++) {
            for (int m : new int[] {1, 2, 3, 6, 30, 48, 75, 220, 284, 1210, 12496, 14288, 49999, 50000}) {
                for (int k : new int[] {0, 1, 2, 5, 49, 50}) {
                    for (int bound : new int[] {1, 5, 6, 283, 284, 1210, 14288, 15472, 50000}) {
                        check.due("falling(" + kind + ", " + m + ", " + k + ", " + bound + ")",
                            users.next().falling(kind, m, k, bound), Oracle.falling(sums[kind], m, k, bound));
                    }
                }
            }
        }
    }
}
