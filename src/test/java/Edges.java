import java.util.HashMap;
import java.util.Map;

/**
 * Looks at the edges of the document's sentences: each answer stands under the sentence that asks for it.
 * A call that is refused is also shown to change nothing: all that the object answers behind it is what an
 * object with the same TEXT answers that never had the call.
 */
final class Edges {
    interface Call {
        long on(GoesInto x);
    }

    /** RICH and not even: a TEXT without a FAULT. */
    static final String WISH = "re~&";

    /** One call of every method that changes nothing, and several where the TEXT shows. */
    private static final Call[] PICTURE = {
        x -> x.count(0), x -> x.count(1), x -> x.fault(), x -> x.wished(1000, -1), x -> x.wished(1000, 0),
        x -> x.holds(945), x -> x.holds(12), x -> x.holds(1), x -> x.sum(2, 12), x -> x.part(12, 3), x -> x.prime(12, 2),
        x -> x.share(12, 0), x -> x.chain(1, 220, 2), x -> x.step(1, 220, 3), x -> x.rings(3, 2, 2000, 0),
        x -> x.having(0, 12, 20, 1), x -> x.wholly(12, 0), x -> x.bare(52), x -> x.friends(6, 500, 0),
        x -> x.reached(2, 1, 100), x -> x.records(1, 20, 4), x -> x.sort(945), x -> x.made(20), x -> x.falling(1, 6, 1, 100)};
    /** These change the TEXT, so they are asked last. */
    private static final Call[] ENDING = {
        x -> x.write(1, 'e'), x -> x.count(0), x -> x.count(1), x -> x.fault(), x -> x.wipe(), x -> x.fault(),
        x -> x.write(1, 'e'), x -> x.wished(9, -1)};

    private final Check check = new Check();
    private final Map<String, long[]> unchanged = new HashMap<>();
    private String sentence = "";
    private int sentences = 0;
    private int underIt = 1;

    void sentence(String words) {
        endSentence();
        sentence = words;
        sentences++;
        underIt = 0;
    }

    /** An answer of a new object, once more at once, and once more when it has been asked for much else. */
    void told(String call, long want, Call asked) {
        toldWith("", call, want, asked);
    }

    void toldWith(String text, String call, long want, Call asked) {
        GoesInto x = withText(text);
        due(call, asked.on(x), want);
        due(call + ", asked again", asked.on(x), want);
        look(x, PICTURE, new long[PICTURE.length], 0);
        due(call + " of a used object", asked.on(x), want);
    }

    void due(String call, long got, long want) {
        underIt++;
        check.due("[" + sentence + "] " + call, got, want);
    }

    void bad(String call, Call asked) {
        refused(call, GoesInto.BAD, asked);
    }

    void none(String call, Call asked) {
        refused(call, GoesInto.NONE, asked);
    }

    void refused(String call, int want, Call asked) {
        refusedWith(WISH, call, want, asked);
    }

    /** The call comes to a new object, and to one that has been asked much; then all is looked at. */
    void refusedWith(String text, String call, int want, Call asked) {
        GoesInto x = withText(text);
        due(call, asked.on(x), want);
        long[] got = new long[2 * PICTURE.length + ENDING.length];
        look(x, PICTURE, got, 0);
        due(call + " of a used object", asked.on(x), want);
        look(x, PICTURE, got, PICTURE.length);
        due(call + " for the third time", asked.on(x), want);
        look(x, ENDING, got, 2 * PICTURE.length);
        long[] due = answersWithout(text);
        for (int i = 0; i < due.length; i++) {
            due("look " + i + " behind " + call, got[i], due[i]);
        }
    }

    private long[] answersWithout(String text) {
        if (!unchanged.containsKey(text)) {
            GoesInto x = withText(text);
            long[] all = new long[2 * PICTURE.length + ENDING.length];
            look(x, PICTURE, all, 0);
            look(x, PICTURE, all, PICTURE.length);
            look(x, ENDING, all, 2 * PICTURE.length);
            unchanged.put(text, all);
        }
        return unchanged.get(text);
    }

    /** The second look goes backwards, so that it begins with what was asked last. */
    private static void look(GoesInto x, Call[] calls, long[] answers, int from) {
        boolean back = from == PICTURE.length;
        for (int i = 0; i < calls.length; i++) {
            int k = back ? calls.length - 1 - i : i;
            answers[from + k] = calls[k].on(x);
        }
    }

    /** A new object with a TEXT: eight bytes with each call, and what is left with the last. */
    static GoesInto withText(String text) {
        GoesInto x = new GoesInto();
        for (int i = 0; i < text.length(); i += 8) {
            int n = Math.min(8, text.length() - i);
            x.write(n, bytes(text.substring(i, i + n)));
        }
        return x;
    }

    static long bytes(String text) {
        long v = 0;
        for (int i = 0; i < text.length(); i++) {
            v = v << 8 | text.charAt(i);
        }
        return v;
    }

    private void endSentence() {
        if (underIt == 0) {
            check.due("[" + sentence + "] is tested", 0, 1);
        }
    }

    void finish() {
        endSentence();
        System.out.println(sentences + " sentences");
        check.finish();
    }
}
