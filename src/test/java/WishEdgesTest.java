/** The edges that the document names for promises 1 and 18 to 23: a new object and its TEXT of WISHES. */
public final class WishEdgesTest {
    private static final String LONGEST = "e" + "~".repeat(59);
    private static final String LOOKING = "rbxpoeqfht123456789";
    /** TEXTS with a FAULT: empty, too few, too many, what is not told, more than one at the end. */
    private static final String[] FAULTY = {"", "&", "re", "z", "e&", "eeeeeeeee", "e".repeat(60)};
    private static final Edges edges = new Edges();

    public static void main(String[] args) {
        newObject();
        writeHowMany();
        writeWhat();
        writeFull();
        wipe();
        faultNotTold();
        faultTooFew();
        faultTheNinth();
        faultAtTheEnd();
        wishedInputs();
        wishedThemselves();
        tokens();
        tokensOfNumbers();
        holds();
        count();
        severalAtOnce();
        callsOfOneObject();
        edges.finish();
    }

    private static void newObject() {
        edges.sentence("1: an empty TEXT");
        edges.told("count(0)", 0, x -> x.count(0));
        edges.told("count(1)", 0, x -> x.count(1));
        edges.told("fault()", 0, x -> x.fault());
        edges.told("wipe()", 0, x -> x.wipe());
        edges.due("write(8, ..) of a new object", new GoesInto().write(8, 0), 8);
        GoesInto full = Edges.withText(LONGEST);
        edges.due("count(0) of another object, when one is full", new GoesInto().count(0), 0);
        edges.due("count(0) of the one that is full", full.count(0), 60);
    }

    private static void writeHowMany() {
        edges.sentence("18: n bytes (1 to 8)");
        for (int n = 1; n <= 8; n++) {
            GoesInto x = new GoesInto();
            edges.due("write(" + n + ", ..)", x.write(n, Edges.bytes("eeeeeeee")), n);
            edges.due("count(0) behind it", x.count(0), n);
            edges.due("count(1) behind it", x.count(1), n);
        }
        for (int n : new int[] {0, -1, 9, Integer.MIN_VALUE, Integer.MAX_VALUE, 1 << 8, (1 << 31) + 1}) {
            for (String text : new String[] {"", "re~&", "r", LONGEST}) {
                edges.refusedWith(text, "write(" + n + ", ..) behind '" + text + "'", GoesInto.BAD,
                    x -> x.write(n, Edges.bytes("eeeeeeee")));
            }
        }
    }

    private static void writeWhat() {
        edges.sentence("18: the highest first, behind THE TEXT");
        // e and not r is no r and not e
        GoesInto x = Edges.withText("er~&");
        edges.due("er~&: holds(2)", x.holds(2), 1);
        edges.due("er~&: holds(945)", x.holds(945), 0);
        GoesInto y = Edges.withText("re~&");
        edges.due("re~&: holds(2)", y.holds(2), 0);
        edges.due("re~&: holds(945)", y.holds(945), 1);
        GoesInto pieces = new GoesInto();
        edges.due("write r", pieces.write(1, 'r'), 1);
        edges.due("write e~", pieces.write(2, Edges.bytes("e~")), 3);
        edges.due("write &", pieces.write(1, '&'), 4);
        edges.due("holds(945)", pieces.holds(945), 1);
        edges.due("holds(2)", pieces.holds(2), 0);
        edges.due("fault()", pieces.fault(), GoesInto.NONE);
        edges.sentence("18: n bytes of v, 0 and 255 too");
        // the first byte that is not told shows where a byte came
        for (int at = 0; at < 8; at++) {
            long e = Edges.bytes("e~~~~~~~");
            long high = e | 255L << 8 * (7 - at);
            long low = e & ~(255L << 8 * (7 - at));
            edges.due("a byte 255 at " + at, written(8, high).fault(), at);
            edges.due("a byte 0 at " + at, written(8, low).fault(), at);
        }
        edges.due("v of -1", written(8, -1L).count(0), 8);
        edges.due("v of the least", written(8, Long.MIN_VALUE).fault(), 0);
        edges.due("what is above n bytes", written(1, Edges.bytes("zzzzzzze")).fault(), GoesInto.NONE);
        edges.due("what is above n bytes", written(2, Edges.bytes("ze~")).fault(), GoesInto.NONE);
        edges.due("what is above n bytes", written(2, Edges.bytes("ze~")).count(0), 2);
    }

    private static GoesInto written(int n, long v) {
        GoesInto x = new GoesInto();
        x.write(n, v);
        return x;
    }

    private static void writeFull() {
        edges.sentence("18: 60 bytes at most, FULL");
        for (int n = 1; n <= 8; n++) {
            int many = n;
            String fits = LONGEST.substring(0, 60 - n);
            String tooLong = LONGEST.substring(0, 61 - n);
            GoesInto x = Edges.withText(fits);
            edges.due("write(" + n + ", ..) behind " + fits.length(), x.write(n, Edges.bytes("~~~~~~~~")), 60);
            edges.due("its length", x.count(0), 60);
            edges.due("its fault", x.fault(), GoesInto.NONE);
            edges.refusedWith(tooLong, "write(" + n + ", ..) behind " + tooLong.length(), GoesInto.FULL,
                y -> y.write(many, Edges.bytes("eeeeeeee")));
            edges.refusedWith(LONGEST, "write(" + n + ", ..) behind 60", GoesInto.FULL, y -> y.write(many, Edges.bytes("eeeeeeee")));
        }
        edges.sentence("18: FULL changes nothing: fewer may still come");
        GoesInto x = Edges.withText(LONGEST.substring(0, 53));
        edges.due("write 8 behind 53", x.write(8, 0), GoesInto.FULL);
        edges.due("write 7 behind 53", x.write(7, Edges.bytes("~~~~~~~")), 60);
        edges.due("write 1 behind 60", x.write(1, '~'), GoesInto.FULL);
        edges.due("fault()", x.fault(), GoesInto.NONE);
        edges.due("wipe()", x.wipe(), 60);
        edges.due("write 8 behind nothing", x.write(8, 0), 8);
    }

    private static void wipe() {
        edges.sentence("19: THE TEXT is empty: how long it was");
        for (String text : new String[] {"", "r", "re~&", "zz", LONGEST.substring(0, 59), LONGEST}) {
            GoesInto x = Edges.withText(text);
            edges.due("wipe() of '" + text + "'", x.wipe(), text.length());
            edges.due("wipe() again", x.wipe(), 0);
            edges.due("count(0) behind it", x.count(0), 0);
            edges.due("count(1) behind it", x.count(1), 0);
            edges.due("fault() behind it", x.fault(), 0);
            edges.due("wished(9, -1) behind it", x.wished(9, -1), GoesInto.NO);
            edges.due("holds(9) behind it", x.holds(9), GoesInto.NO);
            edges.due("write(1, q) behind it", x.write(1, 'q'), 1);
            edges.due("wished(9, -1) of q", x.wished(9, -1), 3);
        }
    }

    private static void faultIs(String text, int due) {
        edges.toldWith(text, "fault() of '" + text + "'", due, x -> x.fault());
        if (due != GoesInto.NONE) {
            edges.refusedWith(text, "wished(9, -1) of '" + text + "'", GoesInto.NO, x -> x.wished(9, -1));
        }
    }

    private static void faultNotTold() {
        edges.sentence("20: what is not told");
        for (int sign = 0; sign < 256; sign++) {
            String it = String.valueOf((char) sign);
            boolean looks = LOOKING.indexOf(sign) >= 0;
            boolean joins = "&|^".indexOf(sign) >= 0;
            boolean isTold = looks || joins || sign == '~';
            edges.due("fault() of sign " + sign, Edges.withText(it).fault(), looks ? GoesInto.NONE : 0);
            edges.due("fault() of ee" + sign, Edges.withText("ee" + it).fault(), joins ? GoesInto.NONE : isTold ? 3 : 2);
        }
        // next to those that are told
        faultIs("0", 0);
        faultIs(":", 0);
        faultIs("e0", 1);
        faultIs("e ", 1);
        faultIs("R", 0);
        faultIs("e~~~z", 4);
        faultIs(LONGEST.substring(0, 59) + "z", 59);
    }

    private static void faultTooFew() {
        edges.sentence("20: too few on the pile");
        faultIs("~", 0);
        faultIs("e~", GoesInto.NONE);
        for (String join : new String[] {"&", "|", "^"}) {
            faultIs(join, 0);
            faultIs("e" + join, 1);
            faultIs("e~" + join, 2);
            faultIs("ee" + join, GoesInto.NONE);
            faultIs("ee" + join + join, 3);
            faultIs("eee" + join + join, GoesInto.NONE);
            faultIs("ee" + join + "~", GoesInto.NONE);
            faultIs("ee" + join + "~" + join, 4);
        }
        edges.sentence("20: the place of the first byte");
        faultIs("&z", 0);
        faultIs("z&", 0);
        faultIs("e&z~", 1);
        faultIs("ez&&", 1);
        faultIs("~eeeeeeeee", 0);
    }

    private static void faultTheNinth() {
        edges.sentence("20: the ninth; never more than 8");
        faultIs("eeeeeeee&&&&&&&", GoesInto.NONE);
        faultIs("eeeeeeee~&&&&&&&", GoesInto.NONE);
        faultIs("eeeeeeeee&&&&&&&&", 8);
        faultIs("eeeeeeee~e&&&&&&&&", 9);
        faultIs("eeeeeeee&e&&&&&&&", GoesInto.NONE);
        faultIs("eeeeeeee&ee&&&&&&&&", 10);
        for (int i = 0; i < LOOKING.length(); i++) {
            String it = LOOKING.substring(i, i + 1);
            faultIs(it.repeat(8) + "|||||||", GoesInto.NONE);
            faultIs(it.repeat(9) + "||||||||", 8);
        }
    }

    private static void faultAtTheEnd() {
        edges.sentence("20: the end, if there is not just one: how many bytes there are");
        faultIs("", 0);
        faultIs("e", GoesInto.NONE);
        faultIs("ee", 2);
        faultIs("eee&", 4);
        faultIs("eee&&", GoesInto.NONE);
        faultIs("eeeeeeee", 8);
        faultIs("eeeeeeee&&&&&&", 14);
        faultIs("ee" + "~".repeat(57), 59);
        faultIs("ee" + "~".repeat(58), 60);
        faultIs("ee" + "~".repeat(57) + "^", GoesInto.NONE);
        faultIs(LONGEST, GoesInto.NONE);
    }

    private static void wishedIs(String text, int bound, int i, int due) {
        edges.toldWith(text, text + ": wished(" + bound + ", " + i + ")", due, x -> x.wished(bound, i));
    }

    private static void wishedInputs() {
        edges.sentence("21: up to N, 5000 at most");
        wishedIs("e~", 1, -1, 1);
        wishedIs("e~", 1, 0, 1);
        wishedIs("e", 1, -1, 0);
        wishedIs("e", 5000, -1, 2500);
        wishedIs("e", 5000, 2499, 5000);
        wishedIs("e", 4999, -1, 2499);
        for (int bound : new int[] {0, -1, 5001, 50000, 50001, Integer.MIN_VALUE, Integer.MAX_VALUE, (1 << 16) + 100}) {
            for (int i : new int[] {-2, -1, 0, Integer.MAX_VALUE}) {
                edges.bad("wished(" + bound + ", " + i + ")", x -> x.wished(bound, i));
            }
        }
        edges.sentence("21: how many (-1), the i-th; NONE");
        wishedIs("q", 16, -1, 4);
        wishedIs("q", 16, 0, 1);
        wishedIs("q", 16, 3, 16);
        edges.refusedWith("q", "wished(16, 4)", GoesInto.NONE, x -> x.wished(16, 4));
        edges.refusedWith("q", "wished(15, 3)", GoesInto.NONE, x -> x.wished(15, 3));
        edges.refusedWith("q", "wished(16, greatest)", GoesInto.NONE, x -> x.wished(16, Integer.MAX_VALUE));
        edges.refusedWith("6", "wished(5000, 0)", GoesInto.NONE, x -> x.wished(5000, 0));
        for (int i : new int[] {-2, -3, Integer.MIN_VALUE}) {
            edges.bad("wished(16, " + i + ")", x -> x.wished(16, i));
        }
        edges.sentence("21: NO: a FAULT");
        for (String text : FAULTY) {
            for (int i : new int[] {-1, 0, 4999, Integer.MAX_VALUE}) {
                edges.refusedWith(text, "'" + text + "': wished(5000, " + i + ")", GoesInto.NO, x -> x.wished(5000, i));
                edges.refusedWith(text, "'" + text + "': wished(1, " + i + ")", GoesInto.NO, x -> x.wished(1, i));
            }
        }
        wishedIs(LONGEST, 9, -1, 5);
    }

    /** How many are WISHED up to 5000, and the first and the last of them at both sides of the bound. */
    private static void wishedEnds(String text, int many, int first, int last) {
        wishedIs(text, 5000, -1, many);
        wishedIs(text, 5000, 0, first);
        wishedIs(text, 5000, many - 1, last);
        edges.refusedWith(text, text + ": wished(5000, " + many + ")", GoesInto.NONE, x -> x.wished(5000, many));
        wishedIs(text, first, -1, 1);
        wishedIs(text, last, -1, many);
        wishedIs(text, last - 1, -1, many - 1);
        if (first > 1) {
            wishedIs(text, first - 1, -1, 0);
        }
    }

    private static void wishedThemselves() {
        edges.sentence("21: the TOKENS that look at a number");
        wishedEnds("r", 1239, 12, 5000);
        wishedEnds("b", 235, 12, 4974);
        wishedEnds("x", 3, 6, 496);
        wishedEnds("p", 3758, 1, 4999);
        wishedEnds("o", 3, 70, 4030);
        wishedEnds("e", 2500, 2, 5000);
        wishedEnds("q", 70, 1, 4900);
        wishedEnds("f", 3042, 1, 4999);
        wishedEnds("h", 71, 1, 4680);
        wishedEnds("t", 18, 1, 2520);
        wishedEnds("1", 711, 2, 4999);
        wishedEnds("2", 2187, 6, 5000);
        wishedEnds("3", 1758, 30, 4995);
        wishedEnds("4", 336, 210, 4998);
        wishedEnds("5", 7, 2310, 4830);
        for (String figure : new String[] {"6", "7", "8", "9"}) {
            wishedIs(figure, 5000, -1, 0);
            wishedIs(figure + "~", 5000, -1, 5000);
        }
    }

    private static void holdsIs(String text, int n, int due) {
        edges.toldWith(text, text + ": holds(" + n + ")", due, x -> x.holds(n));
    }

    private static void tokens() {
        edges.sentence("22: ~ turns the topmost, & | ^ put two together (both, one at least, just one)");
        // 1: q and not e; 2: e and not q; 3: neither; 4: both
        String[] texts = {"eq&", "eq|", "eq^", "eq~&", "e~q&", "eq&~", "e~~q&", "qe&"};
        int[][] due = {{0, 0, 0, 1}, {1, 1, 0, 1}, {1, 1, 0, 0}, {0, 1, 0, 0}, {1, 0, 0, 0}, {1, 1, 1, 0}, {0, 0, 0, 1}, {0, 0, 0, 1}};
        for (int i = 0; i < texts.length; i++) {
            for (int n = 1; n <= 4; n++) {
                holdsIs(texts[i], n, due[i][n - 1]);
            }
        }
        edges.sentence("22: two are put together, what lies below stays");
        holdsIs("eqf&|", 2, 1);
        holdsIs("eqf&|", 3, 0);
        holdsIs("eqf|&", 3, 0);
        holdsIs("eqf|&", 2, 1);
        holdsIs("eq&f|", 3, 1);
        holdsIs("eq&f|", 4, 1);
        holdsIs("eq&f|", 8, 0);
        // eight on the pile, the lowest unlike the seven above it
        holdsIs("eqqqqqqq&&&&&&&", 4, 1);
        holdsIs("eqqqqqqq&&&&&&&", 1, 0);
        holdsIs("eqqqqqqq|||||||", 2, 1);
        holdsIs("eqqqqqqq|||||||", 3, 0);
        holdsIs("eqqqqqqq^^^^^^^", 2, 1);
        holdsIs("eqqqqqqq^^^^^^^", 1, 1);
        holdsIs("eqqqqqqq^^^^^^^", 4, 0);
    }

    private static void tokensOfNumbers() {
        edges.sentence("22: r RICH is above n, x EXACT is n, p POOR is below");
        String[] sorts = {"r", "x", "p", "b"};
        int[][] due = {{1, 0, 0, 1, 0}, {4, 0, 0, 1, 0}, {6, 0, 1, 0, 0}, {12, 1, 0, 0, 1}, {20, 1, 0, 0, 1}, {24, 1, 0, 0, 0},
            {28, 0, 1, 0, 0}, {945, 1, 0, 0, 1}, {1890, 1, 0, 0, 0}, {4096, 0, 0, 1, 0}, {5000, 1, 0, 0, 0}};
        for (int[] row : due) {
            for (int k = 0; k < 4; k++) {
                holdsIs(sorts[k], row[0], row[k + 1]);
            }
        }
        edges.sentence("22: o ODD ONE is RICH and not MADE");
        holdsIs("o", 70, 1);
        holdsIs("o", 836, 1);
        holdsIs("o", 12, 0);
        holdsIs("o", 10, 0);
        holdsIs("o", 6, 0);
        edges.sentence("22: q a square, f free of squares (no square above 1 divides it)");
        holdsIs("q", 1, 1);
        holdsIs("q", 2, 0);
        holdsIs("q", 4, 1);
        holdsIs("q", 8, 0);
        holdsIs("q", 4900, 1);
        holdsIs("q", 4899, 0);
        holdsIs("f", 1, 1);
        holdsIs("f", 2, 1);
        holdsIs("f", 4, 0);
        holdsIs("f", 4489, 0);
        holdsIs("f", 4978, 1);
        edges.sentence("22: h HIGH and t TOP are above all below");
        holdsIs("h", 1, 1);
        holdsIs("t", 1, 1);
        holdsIs("h", 3, 1);
        holdsIs("t", 3, 0);
        holdsIs("h", 5, 0);
        holdsIs("h", 660, 1);
        holdsIs("h", 672, 0);
        edges.sentence("22: 1 to 9: that figure's number of unlike PRIMES");
        // the least number with so many, of which the least has none
        int[] least = {1, 2, 6, 30, 210, 2310};
        for (int many = 0; many < least.length; many++) {
            for (int figure = 1; figure <= 9; figure++) {
                holdsIs(String.valueOf(figure), least[many], figure == many ? 1 : 0);
            }
        }
        holdsIs("1", 4096, 1);
        holdsIs("2", 12, 1);
    }

    private static void holds() {
        edges.sentence("22: n up to 5000");
        holdsIs("e", 1, 0);
        holdsIs("e~", 1, 1);
        holdsIs("e", 4999, 0);
        holdsIs("e", 5000, 1);
        holdsIs(LONGEST, 5000, 0);
        for (int n : new int[] {0, -1, 5001, 5002, 50000, Integer.MIN_VALUE, Integer.MAX_VALUE, (1 << 16) + 12}) {
            edges.bad("holds(" + n + ")", x -> x.holds(n));
        }
        edges.sentence("22: NO");
        for (String text : FAULTY) {
            for (int n : new int[] {1, 12, 5000}) {
                edges.refusedWith(text, "'" + text + "': holds(" + n + ")", GoesInto.NO, x -> x.holds(n));
            }
        }
    }

    private static void countIs(String text, int bytes, int looking) {
        edges.toldWith(text, "count(0) of '" + text + "'", bytes, x -> x.count(0));
        edges.toldWith(text, "count(1) of '" + text + "'", looking, x -> x.count(1));
    }

    private static void count() {
        edges.sentence("23: how many bytes THE TEXT has (0), TOKENS of it that look at a number (1)");
        countIs("", 0, 0);
        countIs("r", 1, 1);
        countIs("re~&", 4, 2);
        countIs("~&|^", 4, 0);
        countIs("0:Rz", 4, 0);
        countIs(LOOKING, 19, 19);
        countIs(LONGEST, 60, 1);
        countIs("e".repeat(60), 60, 60);
        edges.sentence("23: what is 0 or 1");
        for (int what : new int[] {-1, 2, Integer.MIN_VALUE, Integer.MAX_VALUE}) {
            for (String text : new String[] {"", "re~&", LONGEST}) {
                edges.refusedWith(text, "count(" + what + ") of '" + text + "'", GoesInto.BAD, x -> x.count(what));
            }
        }
    }

    private static void severalAtOnce() {
        edges.sentence("of several the first: BAD ahead of NO");
        for (String text : FAULTY) {
            edges.refusedWith(text, "wished(0, -1)", GoesInto.BAD, x -> x.wished(0, -1));
            edges.refusedWith(text, "wished(5001, 0)", GoesInto.BAD, x -> x.wished(5001, 0));
            edges.refusedWith(text, "wished(9, -2)", GoesInto.BAD, x -> x.wished(9, -2));
            edges.refusedWith(text, "holds(0)", GoesInto.BAD, x -> x.holds(0));
            edges.refusedWith(text, "holds(5001)", GoesInto.BAD, x -> x.holds(5001));
        }
        edges.sentence("of several the first: NO ahead of NONE");
        for (String text : FAULTY) {
            edges.refusedWith(text, "wished(1, 1)", GoesInto.NO, x -> x.wished(1, 1));
        }
        edges.sentence("of several the first: BAD ahead of NONE");
        edges.bad("wished(5001, greatest)", x -> x.wished(5001, Integer.MAX_VALUE));
        edges.sentence("of several the first: BAD ahead of FULL");
        edges.refusedWith(LONGEST, "write(9, ..)", GoesInto.BAD, x -> x.write(9, 0));
        edges.refusedWith(LONGEST, "write(0, ..)", GoesInto.BAD, x -> x.write(0, 0));
    }

    /** Calls of all kinds come ahead of the last one, which is the 512th. */
    private static void callsOfOneObject() {
        edges.sentence("an object is used for at most 512 calls");
        Edges.Call[] last = {x -> x.sum(1, 12), x -> x.part(12, 3), x -> x.prime(12, 2), x -> x.chain(1, 12, 1),
            x -> x.step(1, 12, 1), x -> x.rings(1, 2, 300, 0), x -> x.having(0, 12, 20, 1), x -> x.wholly(12, 0), x -> x.bare(52),
            x -> x.share(12, 0), x -> x.friends(6, 500, 0), x -> x.reached(2, 1, 100), x -> x.records(1, 20, 4), x -> x.sort(24),
            x -> x.made(20), x -> x.falling(1, 6, 1, 100), x -> x.write(1, 'q'), x -> x.wipe(), x -> x.fault(),
            x -> x.wished(100, 0), x -> x.holds(70), x -> x.count(0)};
        long[] due = {16, 4, 3, 7, 16, 220, 11, 6, 1, 7, 28, 6, 12, 2, 4, 2, 2, 1, GoesInto.NONE, 70, 1, 1};
        for (int k = 0; k < last.length; k++) {
            GoesInto x = new GoesInto();
            for (int call = 1; call <= 510; call++) {
                int n = call % 22;
                // write and wipe come in turn, so that the TEXT is empty ahead of call 511
                if (n == 16 || n == 17) {
                    edges.due("call " + call, n == 16 ? x.write(1, 'e') : x.wipe(), 1);
                } else {
                    last[n].on(x);
                }
            }
            edges.due("call 511, write o", x.write(1, 'o'), 1);
            edges.due("call 512, the last of number " + k, last[k].on(x), due[k]);
        }
    }
}
