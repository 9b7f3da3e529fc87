import java.util.ArrayDeque;
import java.util.ArrayList;
import java.util.List;
import java.util.Random;

/** Promises 1 and 18 to 23: a new object, write, wipe, fault, wished, holds, count. */
public final class WishesTest {
    private static final String LOOKING = "rbxpoeqfht123456789";
    private static final Check check = new Check();
    private static final int[] all = Oracle.sums(0, 5000);
    private static final List<Integer> high = Oracle.records(all, 0, 5000);
    private static final List<Integer> top = Oracle.records(all, 1, 5000);
    private static final boolean[] made = new boolean[5001];

    public static void main(String[] args) {
        for (int n = 1; n <= 5000; n++) {
            made[n] = Oracle.made(n) != GoesInto.NONE;
        }
        newObject();
        writing();
        faults();
        for (int i = 0; i < LOOKING.length(); i++) {
            lookAtEvery(LOOKING.substring(i, i + 1));
        }
        joins();
        randomTexts();
        counts();
        check.finish();
    }

    private static void newObject() {
        GoesInto x = new GoesInto();
        check.due("count(0) of a new object", x.count(0), 0);
        check.due("count(1) of a new object", x.count(1), 0);
        check.due("fault() of a new object", x.fault(), 0);
        check.due("wished(5, -1) of a new object", x.wished(5, -1), GoesInto.NO);
        check.due("holds(5) of a new object", x.holds(5), GoesInto.NO);
        check.due("wipe() of a new object", x.wipe(), 0);
        GoesInto y = new GoesInto();
        y.write(1, 'r');
        check.due("another object's text", new GoesInto().count(0), 0);
        check.due("its own text", y.count(0), 1);
    }

    private static void writing() {
        GoesInto x = new GoesInto();
        check.due("write 8", x.write(8, 0x7265_7e26_7865_7c31L), 8);
        check.due("fault of re~&xe|1", x.fault(), 8);
        check.due("write one &", x.write(1, '&'), 9);
        check.due("fault of re~&xe|1&", x.fault(), 9);
        check.due("write 2: ~&", x.write(2, 0x7e26), 11);
        check.due("fault of re~&xe|1&~&", x.fault(), GoesInto.NONE);
        check.due("wipe", x.wipe(), 11);
        // the highest byte of eight may be above 127: it is a byte as any, and none that is told
        check.due("write 8 below 0", x.write(8, -1L), 8);
        check.due("fault of bytes 255", x.fault(), 0);
        check.due("wipe 8", x.wipe(), 8);
        // only the lowest n bytes of v come
        check.due("write 1 of a greater v", x.write(1, 0x7a7a7a72L), 1);
        check.due("fault", x.fault(), GoesInto.NONE);
        check.due("write 1 of v below 0", x.write(1, -256L + '~'), 2);
        check.due("fault", x.fault(), GoesInto.NONE);
        check.due("wipe 2", x.wipe(), 2);
        for (int i = 1; i <= 7; i++) {
            check.due("write 8, time " + i, x.write(8, 0x7e7e7e7e7e7e7e7eL), 8 * i);
        }
        check.due("write 5 at 56", x.write(5, 0), GoesInto.FULL);
        check.due("count after FULL", x.count(0), 56);
        check.due("BAD ahead of FULL", x.write(9, 0), GoesInto.BAD);
        check.due("write 4 at 56", x.write(4, 0), 60);
        check.due("write 1 at 60", x.write(1, 'r'), GoesInto.FULL);
        check.due("write 0 at 60", x.write(0, 'r'), GoesInto.BAD);
        check.due("count at 60", x.count(0), 60);
        check.due("wipe 60", x.wipe(), 60);
        check.due("wipe again", x.wipe(), 0);
        check.due("write after wipe", x.write(1, 'r'), 1);
        check.due("fault after wipe", x.fault(), GoesInto.NONE);
    }

    private static void faults() {
        for (int sign = 0; sign < 256; sign++) {
            GoesInto x = new GoesInto();
            x.write(1, sign);
            int due = LOOKING.indexOf(sign) >= 0 ? GoesInto.NONE : 0;
            check.due("fault of sign " + sign, x.fault(), due);
            x.wipe();
            x.write(3, 0x65650000L >> 8 | sign);
            boolean joins = sign == '&' || sign == '|' || sign == '^';
            boolean told = joins || sign == '~' || LOOKING.indexOf(sign) >= 0;
            check.due("fault of ee and sign " + sign, x.fault(), joins ? GoesInto.NONE : told ? 3 : 2);
        }
        String[] texts = {"~", "&", "e&", "e~&", "ee", "eee&", "eeeeeeee", "eeeeeeeee", "eeeeeeee&e&&&&&&&",
            "eeeeeeee&ee", "eeeeeeee&&&&&&&", "eeeeeeee~~&&&&&&&", "e0", "E", "e ", "ee&&", "re~&z", "zzz", "e~~~~~~", "ee^e|"};
        for (String text : texts) {
            check.due("fault of " + text, told(text).fault(), fault(text));
            boolean wrong = fault(text) != GoesInto.NONE;
            if (wrong) {
                check.due("wished of " + text, told(text).wished(10, -1), GoesInto.NO);
                check.due("wished of " + text, told(text).wished(10, 0), GoesInto.NO);
                check.due("holds of " + text, told(text).holds(10), GoesInto.NO);
            }
        }
        check.due("the ninth", told("eeeeeeeee").fault(), 8);
        check.due("eight", told("eeeeeeee").fault(), 8);
        check.due("eight put together", told("eeeeeeee&&&&&&&").fault(), GoesInto.NONE);
        check.due("the longest", told("e" + "~".repeat(59)).fault(), GoesInto.NONE);
    }

    private static void joins() {
        String[] texts = {"ef&", "ef|", "ef^", "ef&~", "e~f~|", "re~&", "rb~&2&", "qe^t|", "eqfhtrbx|^&|^&|", "or&~", "12|3|4|5|",
            "r~x~&p^", "eqf^|", "efq|&", "h~t&", "th&q|e~^"};
        for (String text : texts) {
            lookAtEvery(text);
        }
    }

    private static void lookAtEvery(String text) {
        List<Integer> due = new ArrayList<>();
        GoesInto x = told(text);
        int calls = 60;
        for (int n = 1; n <= 5000; n++) {
            boolean agrees = agrees(text, n);
            if (agrees) {
                due.add(n);
            }
            if (n % 5 == 0 || n < 300) {
                if (calls == 512) {
                    x = told(text);
                    calls = 60;
                }
                calls++;
                check.due(text + ": holds(" + n + ")", x.holds(n), agrees ? 1 : 0);
            }
        }
        x = told(text);
        for (int bound : new int[] {1, 2, 69, 70, 945, 4999, 5000}) {
            int many = 0;
            while (many < due.size() && due.get(many) <= bound) {
                many++;
            }
            check.due(text + ": wished(" + bound + ", -1)", x.wished(bound, -1), many);
            if (many > 0) {
                check.due(text + ": the first", x.wished(bound, 0), due.get(0));
                check.due(text + ": one between", x.wished(bound, many / 2), due.get(many / 2));
                check.due(text + ": the last", x.wished(bound, many - 1), due.get(many - 1));
            }
            check.due(text + ": behind the last", x.wished(bound, many), GoesInto.NONE);
            check.due(text + ": the greatest place", x.wished(bound, Integer.MAX_VALUE), GoesInto.NONE);
        }
    }

    private static void randomTexts() {
        Random random = new Random(3);
        String signs = LOOKING + "~~~&&&&&&|||||||^^^^^^^";
        for (int time = 0; time < 2000; time++) {
            StringBuilder text = new StringBuilder();
            int length = 1 + random.nextInt(time % 2 == 0 ? 12 : 60);
            for (int i = 0; i < length; i++) {
                text.append(random.nextInt(80) == 0 ? (char) random.nextInt(256) : signs.charAt(random.nextInt(signs.length())));
                // half of the texts keep to what can stand there
                if (time % 4 < 2 && fault(text.toString()) < text.length() - 1 && fault(text.toString()) >= 0) {
                    text.setLength(text.length() - 1);
                }
            }
            lookAtText(text.toString(), random);
        }
    }

    private static void lookAtText(String text, Random random) {
        GoesInto x = told(text);
        int fault = fault(text);
        check.due("fault of " + text, x.fault(), fault);
        check.due("count(0) of " + text, x.count(0), text.length());
        for (int i = 0; i < 5; i++) {
            int n = 1 + random.nextInt(i < 3 ? 60 : 5000);
            int due = fault != GoesInto.NONE ? GoesInto.NO : agrees(text, n) ? 1 : 0;
            check.due(text + ": holds(" + n + ")", x.holds(n), due);
        }
    }

    private static void counts() {
        String[] texts = {"", "r", "re~&", "~&|^", "rbxpoeqfht", "123456789", "0zR ", "rz0e", "&&r", "eeeeeeeeeeee"};
        int[] due = {0, 1, 2, 0, 10, 9, 0, 2, 1, 12};
        for (int i = 0; i < texts.length; i++) {
            check.due("count(0) of " + texts[i], told(texts[i]).count(0), texts[i].length());
            check.due("count(1) of " + texts[i], told(texts[i]).count(1), due[i]);
        }
    }

    private static GoesInto told(String text) {
        GoesInto x = new GoesInto();
        int i = 0;
        int n = 1;
        while (i < text.length()) {
            n = Math.min(n % 8 + 1, text.length() - i);
            long v = 0;
            for (int k = 0; k < n; k++) {
                v = v << 8 | text.charAt(i + k);
            }
            i += n;
            check.due("write of " + text, x.write(n, v), i);
        }
        return x;
    }

    private static int fault(String text) {
        int pile = 0;
        for (int i = 0; i < text.length(); i++) {
            char sign = text.charAt(i);
            if (LOOKING.indexOf(sign) >= 0) {
                pile++;
                if (pile == 9) {
                    return i;
                }
            } else if (sign == '~') {
                if (pile == 0) {
                    return i;
                }
            } else if (sign == '&' || sign == '|' || sign == '^') {
                if (pile < 2) {
                    return i;
                }
                pile--;
            } else {
                return i;
            }
        }
        return pile == 1 ? GoesInto.NONE : text.length();
    }

    private static boolean agrees(String text, int n) {
        ArrayDeque<Boolean> pile = new ArrayDeque<>();
        for (char sign : text.toCharArray()) {
            if (sign == '~') {
                pile.push(!pile.pop());
            } else if (LOOKING.indexOf(sign) >= 0) {
                pile.push(trait(sign, n));
            } else {
                boolean top = pile.pop();
                boolean below = pile.pop();
                pile.push(sign == '&' ? top && below : sign == '|' ? top || below : top != below);
            }
        }
        return pile.pop();
    }

    private static boolean trait(char sign, int n) {
        int parts = all[n] - n;
        switch (sign) {
            case 'r':
                return parts > n;
            case 'b':
                return parts > n && Oracle.sort(all, n) == 3;
            case 'x':
                return parts == n;
            case 'p':
                return parts < n;
            case 'o':
                return parts > n && !made[n];
            case 'e':
                return n % 2 == 0;
            case 'q':
                return (int) Math.round(Math.sqrt(n)) * (int) Math.round(Math.sqrt(n)) == n;
            case 'f':
                return isFree(n);
            case 'h':
                return high.contains(n);
            case 't':
                return top.contains(n);
            default:
                return Oracle.primes(n).stream().distinct().count() == sign - '0';
        }
    }

    private static boolean isFree(int n) {
        for (int d = 2; d * d <= n; d++) {
            if (n % (d * d) == 0) {
                return false;
            }
        }
        return true;
    }
}
