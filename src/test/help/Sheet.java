import java.util.NoSuchElementException;

/** What tests of edges share: TEXTS brought to an object, answers held to those that are due. */
final class Sheet {
    static final int NONE = ContentRules.NONE;
    static final int HIDDEN = ContentRules.HIDDEN;
    /** What calls answer for which NONE itself is an answer. */
    static final int NO_SUCH = NONE - 1;
    /** Numbers that are none of anything's, below all. */
    static final int[] BELOW = {Integer.MIN_VALUE, HIDDEN, -13, -2};
    /** Stands in a TEXT ahead of the byte at which its FAULT is due. */
    private static final String MARK = "^";

    private int asked = 0;
    private int wrong = 0;

    void due(String sentence, long got, long want) {
        asked++;
        if (got != want) {
            wrong++;
            System.out.println(sentence + ": answered " + got + ", due is " + want);
        }
    }

    void due(String sentence, boolean got, boolean want) {
        due(sentence, got ? 1 : 0, want ? 1 : 0);
    }

    void dueText(String sentence, String got, String want) {
        asked++;
        if (!got.equals(want)) {
            wrong++;
            System.out.println(sentence + ": answered " + got + ", due is " + want);
        }
    }

    /** A row of answers, told as one text so that a fault shows all of it. */
    void dueRow(String sentence, int[] got, int... want) {
        dueText(sentence, java.util.Arrays.toString(got), java.util.Arrays.toString(want));
    }

    /** Ends the test: its exit code is 1 if an answer was wrong. */
    void close() {
        System.out.println(asked + " answers");
        System.out.println(wrong == 0 ? "all answers are as due" : wrong + " answers are not as due");
        if (wrong != 0) {
            System.exit(1);
        }
    }

    // ---- bringing TEXTS to an object ----

    /** The TAPE has this text alone then. */
    static void tape(ContentRules x, String text) {
        x.end(0);
        more(x, text);
    }

    static void more(ContentRules x, String text) {
        for (int at = 0; at < text.length(); at += 20) {
            int[] five = new int[5];
            for (int k = 0; k < 20 && at + k < text.length(); k++) {
                five[k / 4] |= text.charAt(at + k) << 24 - 8 * (k % 4);
            }
            x.feed(five[0], five[1], five[2], five[3], five[4]);
        }
    }

    ContentRules with(String rules) {
        ContentRules x = new ContentRules();
        tape(x, rules);
        due("RULES " + rules, x.rules() > 0, true);
        return x;
    }

    ContentRules with(String rules, String document) {
        ContentRules x = with(rules);
        due("DOCUMENT " + document, document(x, document) > 0, true);
        return x;
    }

    static int document(ContentRules x, String text) {
        tape(x, text);
        return x.document();
    }

    static int reads(ContentRules x, int rule, String letters) {
        tape(x, letters);
        return x.reads(rule);
    }

    static String repeat(String part, String between, int n) {
        StringBuilder text = new StringBuilder();
        for (int i = 0; i < n; i++) {
            text.append(i == 0 ? "" : between).append(part);
        }
        return text.toString();
    }

    // ---- FAULTS ----

    /** The FAULT is due where the mark stands; without a mark there is none. */
    void faultOfRules(String sentence, String marked) {
        fault(sentence, marked, 0);
    }

    void faultOfDocument(String sentence, String marked) {
        fault(sentence, marked, 1);
    }

    private void fault(String sentence, String marked, int what) {
        int want = marked.indexOf(MARK);
        String text = marked.replace(MARK, "");
        ContentRules x = new ContentRules();
        tape(x, text);
        String about = sentence + ", " + marked;
        due(about, x.fault(what), want);
        due(about + ": the TAPE then", x.count(0), text.length());
        int got = what == 0 ? x.rules() : x.document();
        due(about + ": taken", got == NONE, want != NONE);
        due(about + ": the TAPE at last", x.count(0), want == NONE ? 0 : text.length());
        due(about + ": how many", x.count(1 + what), Math.max(got, 0));
    }

    // ---- answers in a row ----

    boolean throwsFor(ContentRules x, int rule, int what) {
        try {
            x.rule(rule, what);
            return false;
        } catch (NoSuchElementException e) {
            return e.getClass() == NoSuchElementException.class;
        }
    }

    static String message(ContentRules x, int thing) {
        StringBuilder text = new StringBuilder();
        int n = x.message(thing, NONE);
        for (int k = 0; k < n; k++) {
            text.append((char) x.message(thing, k));
        }
        return text.toString();
    }

    static int[] mended(ContentRules x) {
        return new int[] {x.mended(0), x.mended(1), x.mended(2)};
    }

    static int[] witness(ContentRules x, int rule, boolean unclear) {
        int[] all = new int[6];
        for (int what = 0; what < all.length; what++) {
            all[what] = x.witness(rule, unclear, what);
        }
        return all;
    }

    /** Letters of a WITNESS, that which can be taken by two WAYS among them. */
    static String shown(ContentRules x, int rule, boolean unclear) {
        StringBuilder text = new StringBuilder();
        for (int k = 0; x.shown(rule, unclear, k) != NONE; k++) {
            text.append((char) ('a' + x.shown(rule, unclear, k)));
        }
        return text.toString();
    }

    static String shortest(ContentRules x, int rule) {
        StringBuilder text = new StringBuilder();
        for (int k = 0; x.shortest(rule, k) != NONE; k++) {
            text.append((char) ('a' + x.shortest(rule, k)));
        }
        return text.toString();
    }

    static String unlike(ContentRules x, int rule, int other) {
        StringBuilder text = new StringBuilder();
        int n = x.unlike(rule, other, NONE);
        for (int k = 0; k < n; k++) {
            text.append((char) ('a' + x.unlike(rule, other, k)));
        }
        return n == NONE ? "none" : text.toString();
    }

    /** Bits of letters as a text. */
    static String letters(int bits) {
        StringBuilder text = new StringBuilder();
        for (int i = 0; i < 32; i++) {
            if ((bits >> i & 1) != 0) {
                text.append((char) ('a' + i));
            }
        }
        return text.toString();
    }
}
