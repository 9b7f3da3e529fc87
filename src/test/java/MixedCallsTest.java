import java.util.Random;

/** An object that has had many calls answers as a new one does: nothing that is kept inside shows. */
public final class MixedCallsTest {
    private static final int CALLS = 20;

    public static void main(String[] args) {
        Check check = new Check();
        Random random = new Random(77);
        for (int run = 0; run < 8; run++) {
            GoesInto used = new GoesInto();
            long text = 0;
            for (int time = 0; time < 500; time++) {
                if (time % 50 == 0) {
                    used.wipe();
                    text = "robxpefq".charAt(random.nextInt(8)) << 8 | '~';
                    used.write(2, text);
                }
                int call = random.nextInt(CALLS);
                int[] with = {random.nextInt(6) - 1, random.nextInt(14) - 1, random.nextInt(3000), random.nextInt(40) - 2};
                GoesInto fresh = new GoesInto();
                fresh.write(2, text);
                check.due("run " + run + ", call " + call + " with " + with[0] + ", " + with[1] + ", " + with[2] + ", " + with[3],
                    asked(used, call, with), asked(fresh, call, with));
            }
        }
        check.finish();
    }

    private static long asked(GoesInto x, int call, int[] with) {
        int a = with[0];
        int b = with[1];
        int c = with[2];
        int d = with[3];
        switch (call) {
            case 0: return x.sum(a, c * 3000017L);
            case 1: return x.part(c, d);
            case 2: return x.prime(c * 720720L, d);
            case 3: return x.chain(a, b + 20, d % 4);
            case 4: return x.step(a, b + 20, d);
            case 5: return x.rings(a, b, 10 * c, d / 8);
            case 6: return x.having(a, b * b, c, d / 4);
            case 7: return x.wholly(c / 24 * 24, d / 4);
            case 8: return x.bare(c % 210);
            case 9: return x.share(c * 30030L, a);
            case 10: return x.friends(b * 6, c * 10, d / 9);
            case 11: return x.reached(d, b, c);
            case 12: return x.records(a, c, d);
            case 13: return x.sort(c);
            case 14: return x.made(c);
            case 15: return x.falling(a, b, d, c);
            case 16: return x.wished(c, d);
            case 17: return x.holds(c);
            case 18: return x.count(a);
            default: return x.fault();
        }
    }
}
