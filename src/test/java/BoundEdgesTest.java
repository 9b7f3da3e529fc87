/** The edges that the document names for promises 7 to 10 and 12 to 17: what is looked for up to a bound. */
public final class BoundEdgesTest {
    private static final int MOST = 50000;
    private static final int[] NO_BOUNDS = {0, -1, MOST + 1, Integer.MIN_VALUE, Integer.MAX_VALUE,
        // the low 16 bits of these are 100
        (1 << 16) + 100, (1 << 31) + 100};
    private static final int[] NO_PLACES = {-2, -3, Integer.MIN_VALUE};
    private static final int[] NO_KINDS = {-1, 4, Integer.MIN_VALUE, Integer.MAX_VALUE};
    private static final Edges edges = new Edges();

    /** A call with a place: -1 asks how many. */
    private interface Row {
        long at(GoesInto x, int i);
    }

    public static void main(String[] args) {
        ringInputs();
        ringsThemselves();
        havingInputs();
        havingThemselves();
        wholly();
        bare();
        friends();
        reached();
        records();
        sort();
        made();
        fallingInputs();
        fallingThemselves();
        edges.finish();
    }

    /** All of a row: how many, each, NONE behind the last, and BAD ahead of -1. */
    private static void rowIs(String call, Row row, int... due) {
        edges.told(call + ", -1)", due.length, x -> row.at(x, -1));
        for (int i = 0; i < due.length; i++) {
            int place = i;
            edges.told(call + ", " + i + ")", due[i], x -> row.at(x, place));
        }
        edges.none(call + ", " + due.length + ")", x -> row.at(x, due.length));
        edges.none(call + ", greatest)", x -> row.at(x, Integer.MAX_VALUE));
    }

    /** A long row: how many, its last, and NONE behind it. */
    private static void rowEnds(String call, Row row, int many, int last) {
        edges.told(call + ", -1)", many, x -> row.at(x, -1));
        edges.told(call + ", " + (many - 1) + ")", last, x -> row.at(x, many - 1));
        edges.none(call + ", " + many + ")", x -> row.at(x, many));
    }

    private static void noPlaces(String call, Row row) {
        for (int i : NO_PLACES) {
            edges.bad(call + ", " + i + ")", x -> row.at(x, i));
        }
    }

    /** Each argument that is wrong is BAD, whatever the place is. */
    private static void badRow(String call, Row row) {
        for (int i : new int[] {-2, -1, 0, Integer.MAX_VALUE}) {
            edges.bad(call + ", " + i + ")", x -> row.at(x, i));
        }
    }

    private static void ringsAre(int kind, int length, int bound, int... due) {
        rowIs("rings(" + kind + ", " + length + ", " + bound, (x, i) -> x.rings(kind, length, bound, i), due);
    }

    private static void ringInputs() {
        edges.sentence("7: UP TO N, 1 to 50000");
        for (int kind = 1; kind <= 3; kind++) {
            ringsAre(kind, 1, 1);
        }
        ringsAre(1, 1, MOST, 6, 28, 496, 8128);
        ringsAre(2, 2, MOST, 114, 1140, 18018, 32130, 44772);
        for (int bound : NO_BOUNDS) {
            badRow("rings(1, 1, " + bound, (x, i) -> x.rings(1, 1, bound, i));
        }
        edges.sentence("7: length L is 1 to 9");
        for (int kind = 1; kind <= 3; kind++) {
            int k = kind;
            ringsAre(k, 9, MOST);
            for (int length : new int[] {0, -1, 10, Integer.MIN_VALUE, Integer.MAX_VALUE}) {
                badRow("rings(" + k + ", " + length + ", 100", (x, i) -> x.rings(k, length, 100, i));
            }
        }
        edges.sentence("7: KIND 1, 2, 3");
        ringsAre(1, 2, 300, 220);
        ringsAre(2, 2, 300, 114);
        ringsAre(3, 2, 300, 48, 140);
        badRow("rings(0, 1, 100", (x, i) -> x.rings(0, 1, 100, i));
        for (int kind : NO_KINDS) {
            badRow("rings(" + kind + ", 1, 100", (x, i) -> x.rings(kind, 1, 100, i));
        }
        edges.sentence("7: how many (-1), the i-th");
        noPlaces("rings(1, 1, 100", (x, i) -> x.rings(1, 1, 100, i));
        noPlaces("rings(1, 9, 100", (x, i) -> x.rings(1, 9, 100, i));
    }

    private static void ringsThemselves() {
        edges.sentence("7: all of a ring up to N");
        ringsAre(1, 1, 5);
        ringsAre(1, 1, 6, 6);
        ringsAre(1, 2, 283);
        ringsAre(1, 2, 284, 220);
        ringsAre(2, 3, 53);
        ringsAre(2, 3, 54, 30);
        ringsAre(3, 2, 74);
        ringsAre(3, 2, 75, 48);
        ringsAre(1, 5, 15471);
        ringsAre(1, 5, 15472, 12496);
        ringsAre(2, 2, 49307, 114, 1140, 18018, 32130);
        ringsAre(2, 2, 49308, 114, 1140, 18018, 32130, 44772);
        edges.sentence("7: numbers of COMING ROUND alone");
        // 25 comes to 6, but is not of its ring
        ringsAre(1, 1, 100, 6, 28);
        edges.sentence("7: of length L, not of a part of it and not of it twice");
        ringsAre(1, 2, 100);
        ringsAre(1, 4, 3000);
        ringsAre(2, 6, 3000);
        ringsAre(2, 4, 3000);
        ringsAre(2, 5, 3000, 1482);
        edges.sentence("7: by their least numbers");
        // 1050 with 1925 comes ahead of 1575 with 1648
        ringsAre(3, 2, 1925, 48, 140, 1050, 1575);
        ringsAre(3, 2, 1924, 48, 140, 1575);
    }

    private static void havingAre(int kind, int m, int bound, int... due) {
        rowIs("having(" + kind + ", " + m + ", " + bound, (x, i) -> x.having(kind, m, bound, i), due);
    }

    private static void havingInputs() {
        edges.sentence("8: m is 0 to 100000");
        for (int kind = 0; kind <= 3; kind++) {
            int k = kind;
            havingAre(k, 100000, MOST);
            for (int m : new int[] {-1, 100001, Integer.MIN_VALUE, Integer.MAX_VALUE, (1 << 17) + 12}) {
                badRow("having(" + k + ", " + m + ", 20", (x, i) -> x.having(k, m, 20, i));
            }
        }
        havingAre(0, 0, MOST);
        havingAre(1, 0, MOST, 1);
        havingAre(2, 0, MOST, 1);
        havingAre(3, 0, 5, 1, 2, 3, 5);
        rowEnds("having(3, 0, 50000", (x, i) -> x.having(3, 0, MOST, i), 5134, 49999);
        edges.sentence("8: by KIND 0 to 3");
        havingAre(0, 12, 11, 6, 11);
        havingAre(1, 12, 121, 121);
        havingAre(2, 12, 28, 18, 24, 28);
        havingAre(3, 12, 35, 27, 35);
        for (int kind : NO_KINDS) {
            badRow("having(" + kind + ", 12, 20", (x, i) -> x.having(kind, 12, 20, i));
        }
        edges.sentence("8: how many (-1), the i-th");
        noPlaces("having(0, 12, 20", (x, i) -> x.having(0, 12, 20, i));
        noPlaces("having(0, 2, 20", (x, i) -> x.having(0, 2, 20, i));
        edges.sentence("8: UP TO N, 1 to 50000");
        for (int bound : NO_BOUNDS) {
            badRow("having(0, 1, " + bound, (x, i) -> x.having(0, 1, bound, i));
        }
    }

    private static void havingThemselves() {
        edges.sentence("8: numbers up to N, rising");
        havingAre(0, 1, 1, 1);
        havingAre(0, 12, 1);
        havingAre(0, 12, 5);
        havingAre(0, 12, 6, 6);
        havingAre(0, 12, 10, 6);
        havingAre(0, 12, 11, 6, 11);
        havingAre(0, MOST, 49998, 33723);
        havingAre(0, MOST, 49999, 33723, 49999);
        havingAre(1, 71086, 49999);
        havingAre(1, 71086, MOST, 50000);
        havingAre(2, 3142, 49999, 12548);
        havingAre(2, 3142, MOST, 12548, 50000);
        havingAre(3, 71085, 49999);
        havingAre(3, 71085, MOST, 50000);
    }

    private static void whollyAre(int m, int... due) {
        rowIs("wholly(" + m, (x, i) -> x.wholly(m, i), due);
    }

    private static void wholly() {
        edges.sentence("9: m is 1 to 1000000");
        whollyAre(1, 1);
        whollyAre(1000000, 640737, 656229, 745653, 949981, 968719, 994801, 997501);
        whollyAre(999999);
        for (int m : new int[] {0, -1, 1000001, Integer.MIN_VALUE, Integer.MAX_VALUE, (1 << 20) + 12}) {
            badRow("wholly(" + m, (x, i) -> x.wholly(m, i));
        }
        edges.sentence("9: all numbers however great, rising");
        whollyAre(999984, 996641, 999983);
        whollyAre(72, 30, 46, 51, 55, 71);
        // 31 is the SUM of 16 and of 25
        whollyAre(31, 16, 25);
        whollyAre(961, 400);
        rowEnds("wholly(725760", (x, i) -> x.wholly(725760, i), 563, 724057);
        edges.sentence("9: there may be none");
        whollyAre(2);
        whollyAre(3, 2);
        whollyAre(4, 3);
        whollyAre(5);
        edges.sentence("9: how many (-1), the i-th");
        noPlaces("wholly(12", (x, i) -> x.wholly(12, i));
        noPlaces("wholly(2", (x, i) -> x.wholly(2, i));
    }

    private static void bareIs(int m, int due) {
        edges.told("bare(" + m + ")", due, x -> x.bare(m));
    }

    private static void bare() {
        edges.sentence("10: m is 2 to 200");
        bareIs(2, 1);
        bareIs(3, 0);
        bareIs(199, 0);
        bareIs(200, 0);
        for (int m : new int[] {1, 0, -1, 201, 206, Integer.MIN_VALUE, Integer.MAX_VALUE, (1 << 8) + 2}) {
            edges.bad("bare(" + m + ")", x -> x.bare(m));
        }
        edges.sentence("10: if no number has it (however great)");
        // only 191 by 191 has 192, only 179 by 179 has 180, only 3 by 3 has 4
        bareIs(192, 0);
        bareIs(180, 0);
        bareIs(4, 0);
        int[] all = {2, 5, 52, 88, 96, 120, 124, 146, 162, 188};
        int next = 0;
        for (int m = 2; m <= 200; m++) {
            boolean isBare = next < all.length && all[next] == m;
            next += isBare ? 1 : 0;
            bareIs(m, isBare ? 1 : 0);
        }
    }

    private static void friendsAre(int n, int bound, int... due) {
        rowIs("friends(" + n + ", " + bound, (x, i) -> x.friends(n, bound, i), due);
    }

    private static void friends() {
        edges.sentence("12: n up to 50000");
        friendsAre(1, MOST);
        friendsAre(MOST, MOST);
        friendsAre(49959, MOST, 8235);
        friendsAre(49959, 8235, 8235);
        friendsAre(49959, 8234);
        edges.sentence("12: n and N are 1 to 50000");
        for (int wrong : NO_BOUNDS) {
            badRow("friends(" + wrong + ", 100", (x, i) -> x.friends(wrong, 100, i));
            badRow("friends(6, " + wrong, (x, i) -> x.friends(6, wrong, i));
        }
        edges.sentence("12: numbers up to N");
        friendsAre(6, 1);
        friendsAre(6, 27);
        friendsAre(6, 28, 28);
        friendsAre(6, 8127, 28, 496);
        friendsAre(6, 8128, 28, 496, 8128);
        friendsAre(8235, 49958);
        friendsAre(8235, 49959, 49959);
        edges.sentence("12: other numbers with its SHARE");
        friendsAre(6, 6);
        friendsAre(28, 28, 6);
        friendsAre(28, 6, 6);
        friendsAre(28, 5);
        friendsAre(1, 1);
        edges.sentence("12: how many (-1), the i-th");
        noPlaces("friends(6, 500", (x, i) -> x.friends(6, 500, i));
        noPlaces("friends(1, 500", (x, i) -> x.friends(1, 500, i));
    }

    private static void reachedIs(int a, int b, int bound, int due) {
        String call = "reached(" + a + ", " + b + ", " + bound + ")";
        if (due == GoesInto.NONE) {
            edges.none(call, x -> x.reached(a, b, bound));
        } else {
            edges.told(call, due, x -> x.reached(a, b, bound));
        }
    }

    private static void reached() {
        edges.sentence("13: a by b, 1 to 1000 each");
        reachedIs(1, 1, 1, 1);
        reachedIs(1, 1000, 1, 1);
        reachedIs(1000, 1000, 1, 1);
        reachedIs(1000, 999, 1, GoesInto.NONE);
        reachedIs(1000, 999, MOST, 2);
        reachedIs(999, 1000, MOST, 1);
        reachedIs(1000, 1, MOST, GoesInto.NONE);
        for (int wrong : new int[] {0, -1, 1001, Integer.MIN_VALUE, Integer.MAX_VALUE, (1 << 16) + 2}) {
            edges.bad("reached(" + wrong + ", 1, 100)", x -> x.reached(wrong, 1, 100));
            edges.bad("reached(1, " + wrong + ", 100)", x -> x.reached(1, wrong, 100));
        }
        edges.sentence("13: UP TO N, 1 to 50000");
        for (int bound : NO_BOUNDS) {
            edges.bad("reached(1, 1, " + bound + ")", x -> x.reached(1, 1, bound));
            edges.bad("reached(1000, 1, " + bound + ")", x -> x.reached(1000, 1, bound));
        }
        edges.sentence("13: the least number up to N");
        reachedIs(2, 1, 5, GoesInto.NONE);
        reachedIs(2, 1, 6, 6);
        reachedIs(2, 1, MOST, 6);
        reachedIs(4, 1, 27719, GoesInto.NONE);
        reachedIs(4, 1, 27720, 27720);
        reachedIs(41, 10, MOST, GoesInto.NONE);
        edges.sentence("13: with SHARE a by b at least");
        // 12 has just 7 by 3, 120 just 3 by 1, 27720 just 312 by 77
        reachedIs(7, 3, MOST, 12);
        reachedIs(701, 300, MOST, 24);
        reachedIs(3, 1, MOST, 120);
        reachedIs(901, 300, MOST, 180);
        reachedIs(312, 77, MOST, 27720);
        reachedIs(313, 77, MOST, GoesInto.NONE);
    }

    private static void recordsAre(int sort, int bound, int... due) {
        rowIs("records(" + sort + ", " + bound, (x, i) -> x.records(sort, bound, i), due);
    }

    private static void records() {
        edges.sentence("14: RECORDS: HIGH (sort 0), TOP (1)");
        recordsAre(0, 12, 1, 2, 3, 4, 6, 8, 10, 12);
        recordsAre(1, 12, 1, 2, 4, 6, 12);
        for (int sort : new int[] {-1, 2, Integer.MIN_VALUE, Integer.MAX_VALUE}) {
            badRow("records(" + sort + ", 100", (x, i) -> x.records(sort, 100, i));
        }
        edges.sentence("14: up to the bound, 1 to 50000");
        recordsAre(0, 1, 1);
        recordsAre(1, 1, 1);
        recordsAre(0, 11, 1, 2, 3, 4, 6, 8, 10);
        recordsAre(1, 11, 1, 2, 4, 6);
        rowEnds("records(0, 49139", (x, i) -> x.records(0, 49139, i), 118, 47880);
        rowEnds("records(0, 49140", (x, i) -> x.records(0, 49140, i), 119, 49140);
        rowEnds("records(0, 50000", (x, i) -> x.records(0, MOST, i), 119, 49140);
        rowEnds("records(1, 27719", (x, i) -> x.records(1, 27719, i), 22, 25200);
        rowEnds("records(1, 27720", (x, i) -> x.records(1, 27720, i), 23, 27720);
        rowEnds("records(1, 50000", (x, i) -> x.records(1, MOST, i), 23, 27720);
        for (int bound : NO_BOUNDS) {
            badRow("records(0, " + bound, (x, i) -> x.records(0, bound, i));
            badRow("records(1, " + bound, (x, i) -> x.records(1, bound, i));
        }
        edges.sentence("14: above those of all numbers below it, so not the same");
        // 660 and 672 have the same SUM
        for (int bound : new int[] {660, 671, 672}) {
            rowEnds("records(0, " + bound, (x, i) -> x.records(0, bound, i), 40, 660);
        }
        edges.sentence("14: how many (-1), the i-th");
        noPlaces("records(0, 100", (x, i) -> x.records(0, 100, i));
        noPlaces("records(1, 100", (x, i) -> x.records(1, 100, i));
    }

    private static void sortIs(int n, int due) {
        edges.told("sort(" + n + ")", due, x -> x.sort(n));
    }

    private static void sort() {
        edges.sentence("15: n up to 50000");
        sortIs(1, 0);
        sortIs(49999, 0);
        sortIs(50000, 2);
        for (int n : NO_BOUNDS) {
            edges.bad("sort(" + n + ")", x -> x.sort(n));
        }
        edges.sentence("15: EXACT, if SUM of KIND 1 is n; POOR, if below; RICH, if above");
        // 4 and 32768 are short of it by 1, 18 and 20 are above by 3 and 2
        sortIs(4, 0);
        sortIs(32768, 0);
        sortIs(6, 1);
        sortIs(28, 1);
        sortIs(496, 1);
        sortIs(8128, 1);
        sortIs(18, 3);
        sortIs(20, 3);
        edges.sentence("15: BARELY, if none of its PARTS but itself is RICH");
        // 12 has 6, which is EXACT; 24 has 12, 40 has 20, 1890 has 945
        sortIs(12, 3);
        sortIs(24, 2);
        sortIs(20, 3);
        sortIs(40, 2);
        sortIs(945, 3);
        sortIs(1890, 2);
        sortIs(49974, 3);
        sortIs(49998, 2);
    }

    private static void madeIs(int n, int due) {
        if (due == GoesInto.NONE) {
            edges.none("made(" + n + ")", x -> x.made(n));
        } else {
            edges.told("made(" + n + ")", due, x -> x.made(n));
        }
    }

    private static void made() {
        edges.sentence("16: n is 1 to 5000");
        madeIs(1, GoesInto.NONE);
        madeIs(4998, 3);
        madeIs(4999, GoesInto.NONE);
        madeIs(5000, 4);
        for (int n : new int[] {0, -1, 5001, 5004, 50000, Integer.MIN_VALUE, Integer.MAX_VALUE, (1 << 16) + 12}) {
            edges.bad("made(" + n + ")", x -> x.made(n));
        }
        edges.sentence("16: some of its PARTS without n, each once");
        // 1 and 1 are 2, 2 and 2 are 4, 4 and 4 are 8
        madeIs(2, GoesInto.NONE);
        madeIs(4, GoesInto.NONE);
        madeIs(8, GoesInto.NONE);
        madeIs(6, 3);
        edges.sentence("16: the fewest of these");
        // 12 is 6, 4, 2 or 6, 3, 2, 1
        madeIs(12, 3);
        madeIs(20, 4);
        madeIs(28, 5);
        madeIs(496, 9);
        madeIs(945, 11);
        edges.sentence("16: none: it is not MADE");
        madeIs(10, GoesInto.NONE);
        madeIs(70, GoesInto.NONE);
        madeIs(836, GoesInto.NONE);
        madeIs(4030, GoesInto.NONE);
    }

    private static void fallingIs(int kind, int m, int k, int bound, int due) {
        edges.told("falling(" + kind + ", " + m + ", " + k + ", " + bound + ")", due, x -> x.falling(kind, m, k, bound));
    }

    private static void fallingInputs() {
        edges.sentence("17: by KIND 1, 2, 3");
        fallingIs(1, 48, 50, MOST, 7);
        fallingIs(2, 48, 50, MOST, 122);
        fallingIs(3, 48, 50, MOST, 543);
        edges.bad("falling(0, 6, 1, 100)", x -> x.falling(0, 6, 1, 100));
        for (int kind : NO_KINDS) {
            edges.bad("falling(" + kind + ", 6, 1, 100)", x -> x.falling(kind, 6, 1, 100));
        }
        edges.sentence("17: m is 1 to 50000, and N is");
        fallingIs(1, 1, 50, 1, 1);
        fallingIs(2, 1, 50, 1, 1);
        fallingIs(3, 1, 50, 1, 1);
        fallingIs(1, MOST, 50, MOST, 2);
        fallingIs(2, MOST, 50, MOST, 1);
        fallingIs(3, MOST, 50, MOST, 1);
        for (int wrong : NO_BOUNDS) {
            edges.bad("falling(1, " + wrong + ", 1, 100)", x -> x.falling(1, wrong, 1, 100));
            edges.bad("falling(1, " + wrong + ", 0, 50000)", x -> x.falling(1, wrong, 0, MOST));
            edges.bad("falling(1, 6, 1, " + wrong + ")", x -> x.falling(1, 6, 1, wrong));
        }
        edges.sentence("17: k is 0 to 50");
        fallingIs(1, 1, 0, MOST, 1);
        fallingIs(1, 1, 1, MOST, 5134);
        fallingIs(1, 1, 49, MOST, 36837);
        fallingIs(1, 1, 50, MOST, 36848);
        fallingIs(2, 1, 49, MOST, 43069);
        fallingIs(2, 1, 50, MOST, 43143);
        for (int k : new int[] {-1, 51, Integer.MIN_VALUE, Integer.MAX_VALUE, 1 << 8}) {
            edges.bad("falling(1, 1, " + k + ", 100)", x -> x.falling(1, 1, k, 100));
        }
    }

    private static void fallingThemselves() {
        edges.sentence("17: in k steps at most");
        // 25 comes to 6 in one step, 95 in two
        fallingIs(1, 6, 1, 100, 2);
        fallingIs(1, 6, 2, 100, 3);
        fallingIs(1, 6, 3, 100, 3);
        fallingIs(3, 7, 27, MOST, 4677);
        fallingIs(3, 7, 28, MOST, 4680);
        fallingIs(3, 7, 50, MOST, 4680);
        edges.sentence("17: m itself in 0");
        fallingIs(1, 6, 0, 100, 1);
        fallingIs(1, 2, 0, 100, 1);
        fallingIs(1, 2, 50, 100, 1);
        // each of a ring comes to the other in one step, and to itself in 0
        fallingIs(1, 284, 0, 284, 1);
        fallingIs(1, 284, 1, 284, 2);
        fallingIs(1, 284, 50, 284, 2);
        edges.sentence("17: numbers up to N, all on the way up to N");
        // m above N
        fallingIs(1, 6, 50, 5, 0);
        fallingIs(1, 6, 0, 5, 0);
        fallingIs(1, 6, 0, 6, 1);
        fallingIs(1, MOST, 50, 49999, 0);
        fallingIs(1, MOST, 0, MOST, 1);
        // the number itself above N
        fallingIs(1, 6, 1, 24, 1);
        fallingIs(1, 6, 1, 25, 2);
        // 12 goes by 16, 220 by 284, 30 by 54, 48 by 75
        fallingIs(1, 1, 50, 15, 13);
        fallingIs(1, 1, 50, 16, 15);
        fallingIs(1, 220, 50, 283, 1);
        fallingIs(1, 220, 50, 284, 2);
        fallingIs(2, 30, 50, 53, 1);
        fallingIs(2, 30, 50, 54, 3);
        fallingIs(3, 48, 50, 74, 1);
        fallingIs(3, 48, 50, 75, 2);
    }
}
