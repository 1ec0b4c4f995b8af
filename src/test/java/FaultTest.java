import java.util.ArrayList;
import java.util.List;
import java.util.Random;

/**
 * FAULTS of random TEXTS. For RULES an own recogniser tells which TEXTS there are, and whether
 * some end makes a begin one of them; the FAULT is the first byte (a blank, too) behind which none does.
 */
public final class FaultTest {
    private static final int TEXTS = 12000;
    private static final int NONE = ContentRules.NONE;

    private static int wrong = 0;

    private static void due(String call, long got, long want) {
        if (got != want) {
            wrong++;
            System.out.println(call + " answered " + got + ", due is " + want);
        }
    }

    private static ContentRules fed(String text) {
        ContentRules x = new ContentRules();
        for (int at = 0; at < text.length(); at += 20) {
            int[] five = new int[5];
            for (int k = 0; k < 20 && at + k < text.length(); k++) {
                five[k / 4] |= text.charAt(at + k) << 24 - 8 * (k % 4);
            }
            x.feed(five[0], five[1], five[2], five[3], five[4]);
        }
        return x;
    }

    // ---- which TEXTS are RULES ----

    private static String text;
    private static int at;
    private static int letters;
    private static int counts;
    private static int anys;

    private static final class No extends RuntimeException {
        private static final long serialVersionUID = 1L;

        No() {
            super(null, null, false, false);
        }
    }

    private static char peek() {
        while (at < text.length() && text.charAt(at) == ' ') {
            at++;
        }
        return at < text.length() ? text.charAt(at) : '$';
    }

    private static void must(boolean is) {
        if (!is) {
            throw new No();
        }
    }

    private static boolean isRules(String candidate) {
        text = candidate;
        at = 0;
        StringBuilder names = new StringBuilder();
        try {
            do {
                if (names.length() > 0) {
                    at++;
                }
                must(names.length() < 8);
                char name = peek();
                must(name >= 'a' && name <= 'z' && names.indexOf("" + name) < 0);
                names.append(name);
                at++;
                must(peek() == '=');
                at++;
                letters = 0;
                counts = 0;
                anys = 0;
                pattern(0);
            } while (peek() == ';');
            return at == text.length();
        } catch (No e) {
            return false;
        }
    }

    /** Answers the most COUNTS around one letter. */
    private static int pattern(int depth) {
        must(depth <= 8);
        int layers = row(depth);
        while (peek() == '|') {
            at++;
            layers = Math.max(layers, row(depth));
        }
        return layers;
    }

    private static int row(int depth) {
        int layers = unit(depth);
        while (peek() == ',') {
            at++;
            layers = Math.max(layers, unit(depth));
        }
        return layers;
    }

    private static int unit(int depth) {
        char sign = peek();
        int layers = 0;
        at++;
        if (sign == '(') {
            layers = pattern(depth + 1);
            must(peek() == ')');
            at++;
        } else if (sign == '[') {
            anys++;
            must(anys <= 4);
            int parts = 1;
            layers = pattern(depth + 1);
            while (peek() == '&') {
                at++;
                parts++;
                layers = Math.max(layers, pattern(depth + 1));
            }
            must(peek() == ']' && parts >= 2 && parts <= 4);
            at++;
        } else if (sign >= 'a' && sign <= 'z') {
            letters++;
            must(letters <= 16);
        } else {
            must(sign == '0');
        }
        if ("?*+{".indexOf(peek()) < 0) {
            return layers;
        }
        counts++;
        must(counts <= 8 && layers < 2);
        if (text.charAt(at) == '{') {
            amounts();
        }
        at++;
        return layers + 1;
    }

    private static void amounts() {
        int end = text.indexOf('}', at);
        must(end > 0);
        String inner = text.substring(at + 1, end);
        at = end;
        must(inner.matches(" *[0-9]{1,2} *(, *([0-9]{1,2} *)?)?"));
        String[] two = inner.trim().split(",", -1);
        int from = Integer.parseInt(two[0].trim());
        must(from <= 12);
        if (two.length == 2 && two[1].isBlank()) {
            return;
        }
        int to = Integer.parseInt(two[two.length - 1].trim());
        must(to >= 1 && to >= from && to <= 12);
    }

    // ---- which begins have an end ----

    private static final List<String> FIXES = new ArrayList<>();

    static {
        for (String fix : new String[] {"", "0", "=0", "}", ",}", "0}", ",0", "12}", ",12}", "1,}"}) {
            FIXES.add(fix);
        }
        for (char c = 'a'; c <= 'z'; c++) {
            FIXES.add(c + "=0");
        }
        for (char c = '0'; c <= '9'; c++) {
            FIXES.add(c + "}");
        }
    }

    private static String closers(String begin) {
        StringBuilder open = new StringBuilder();
        StringBuilder parted = new StringBuilder();
        for (int i = 0; i < begin.length(); i++) {
            char c = begin.charAt(i);
            if (c == '(' || c == '[') {
                open.append(c);
                parted.append('n');
            } else if ((c == ')' || c == ']') && open.length() > 0) {
                open.setLength(open.length() - 1);
                parted.setLength(parted.length() - 1);
            } else if (c == '&' && parted.length() > 0) {
                parted.setCharAt(parted.length() - 1, 'y');
            }
        }
        StringBuilder close = new StringBuilder();
        for (int i = open.length() - 1; i >= 0; i--) {
            close.append(open.charAt(i) == '(' ? ")" : parted.charAt(i) == 'y' ? "]" : "&0]");
        }
        return close.toString();
    }

    private static boolean hasEnd(String begin) {
        String close = closers(begin);
        for (String fix : FIXES) {
            if (isRules(begin + fix + close)) {
                return true;
            }
        }
        return false;
    }

    private static int faultOfRules(String whole) {
        if (isRules(whole)) {
            return NONE;
        }
        for (int i = 0; i < whole.length(); i++) {
            if (!hasEnd(whole.substring(0, i + 1))) {
                return i;
            }
        }
        return whole.length();
    }

    // ---- DOCUMENTS ----

    private static int things;
    private static int faultAt;

    private static int faultOfDocument(String whole) {
        text = whole;
        at = 0;
        things = 0;
        faultAt = NONE;
        try {
            thing(1);
            if (peek() != '$' || at < text.length()) {
                failAt();
            }
            return NONE;
        } catch (No e) {
            return faultAt;
        }
    }

    private static void failAt() {
        faultAt = at;
        throw new No();
    }

    private static void thing(int depth) {
        char name = peek();
        if (name < 'a' || name > 'z' || things == 60) {
            failAt();
        }
        things++;
        at++;
        if (peek() != '(') {
            return;
        }
        if (depth == 8) {
            failAt();
        }
        for (int n = 1; ; n++) {
            at++;
            char next = peek();
            if (n > 24 && next >= 'a' && next <= 'z') {
                failAt();
            }
            thing(depth + 1);
            if (peek() == ')') {
                at++;
                return;
            }
            if (peek() != ',') {
                failAt();
            }
        }
    }

    // ---- random TEXTS ----

    private static Random random;

    private static String some(String signs) {
        return "" + signs.charAt(random.nextInt(signs.length()));
    }

    private static String blank() {
        return random.nextInt(15) == 0 ? " " : "";
    }

    private static String randomPattern(int depth) {
        StringBuilder made = new StringBuilder();
        int n = 1 + random.nextInt(3);
        for (int i = 0; i < n; i++) {
            made.append(i == 0 ? "" : some(",,|")).append(blank());
            int kind = depth == 0 ? 0 : random.nextInt(6);
            if (kind < 4) {
                made.append(some("abcdefgh0"));
            } else if (kind == 4) {
                made.append("(").append(randomPattern(depth - 1)).append(")");
            } else {
                made.append("[").append(randomPattern(depth - 1));
                int parts = 1 + random.nextInt(4);
                for (int k = 0; k < parts; k++) {
                    made.append("&").append(randomPattern(depth - 1));
                }
                made.append("]");
            }
            made.append(blank()).append(randomCount());
        }
        return made.toString();
    }

    private static String randomCount() {
        int kind = random.nextInt(12);
        if (kind < 7) {
            return "";
        }
        if (kind < 10) {
            return some("?*+");
        }
        String zero = random.nextInt(6) == 0 ? "0" : "";
        String from = zero + random.nextInt(14);
        String to = zero + random.nextInt(14);
        if (kind == 10) {
            return "{" + blank() + from + blank() + "}";
        }
        return "{" + from + blank() + "," + blank() + (random.nextInt(4) == 0 ? "" : to + blank()) + "}";
    }

    private static String randomRules() {
        StringBuilder made = new StringBuilder();
        int n = random.nextInt(9) == 0 ? 9 : 1 + random.nextInt(3);
        for (int i = 0; i < n; i++) {
            made.append(i == 0 ? "" : ";").append(blank());
            made.append(random.nextInt(10) == 0 ? some("abc") : "" + (char) ('a' + i));
            made.append(blank()).append("=").append(randomPattern(n > 3 ? 1 : random.nextInt(4)));
        }
        return spoiled(made, "abz0123456789=;|,()[]&?*+{} A");
    }

    private static String spoiled(StringBuilder made, String signs) {
        int changes = random.nextInt(4);
        for (int k = 0; k < changes && made.length() > 0; k++) {
            int place = random.nextInt(made.length());
            int kind = random.nextInt(4);
            if (kind == 0) {
                made.deleteCharAt(place);
            } else if (kind == 1) {
                made.insert(place, some(signs));
            } else if (kind == 2) {
                made.setCharAt(place, some(signs).charAt(0));
            } else if (random.nextInt(5) == 0) {
                made.setLength(place);
            }
        }
        if (made.length() > 400) {
            made.setLength(400);
        }
        return made.toString();
    }

    private static String randomThing(int depth, int wide) {
        StringBuilder made = new StringBuilder(blank() + some("abcxyz") + blank());
        if (depth > 0 && random.nextInt(4) > 0) {
            made.append("(");
            int n = 1 + random.nextInt(wide);
            for (int i = 0; i < n; i++) {
                made.append(i == 0 ? "" : ",").append(randomThing(depth - 1, wide > 8 ? 2 : wide));
            }
            made.append(")").append(blank());
        }
        return made.toString();
    }

    private static void checkRules(String whole) {
        ContentRules x = fed(whole);
        int want = faultOfRules(whole);
        due("fault(0) of " + whole, x.fault(0), want);
        due("bytes of " + whole, x.count(0), whole.length());
        int got = x.rules();
        due("rules() of " + whole, got == NONE ? 0 : 1, want == NONE ? 1 : 0);
        due("bytes then of " + whole, x.count(0), want == NONE ? 0 : whole.length());
        due("RULES of " + whole, x.count(1), Math.max(got, 0));
    }

    private static void checkDocument(String whole) {
        ContentRules x = fed(whole);
        int want = faultOfDocument(whole);
        due("fault(1) of " + whole, x.fault(1), want);
        int got = x.document();
        due("document() of " + whole, got, want == NONE ? things : NONE);
        due("bytes then of " + whole, x.count(0), want == NONE ? 0 : whole.length());
        due("THINGS of " + whole, x.count(2), Math.max(got, 0));
    }

    public static void main(String[] args) {
        int faults = 0;
        for (int seed = 1; seed <= TEXTS && wrong < 30; seed++) {
            random = new Random(seed);
            String whole = randomRules();
            checkRules(whole);
            faults += fed(whole).fault(0) == NONE ? 0 : 1;
            String things = spoiled(new StringBuilder(randomThing(random.nextInt(10), random.nextInt(20) == 0 ? 30 : 4)), "az(), 0");
            checkDocument(things);
        }
        for (int from = 0; from <= 13; from++) {
            for (int to = 0; to <= 13; to++) {
                checkRules("a=b{" + from + "," + to + "}");
                checkRules("a=b{0" + from + ",0" + to + "}");
                checkRules("a=b{" + from + ",0" + to + "}");
                checkRules("a=b{" + from + ", " + to + " }");
                checkRules("a=b{" + from + "," + to + " ");
                checkRules("a=b{" + from + "," + to);
                checkRules("a=b{" + from + " ,0" + to + "  ,");
                checkRules("a=b{" + from + "," + to / 10 + " " + to % 10 + "}");
            }
            checkRules("a=b{ " + from + " }");
            checkRules("a=b{" + from + " , }");
            checkRules("a=b{" + from + " ");
            checkRules("a=b{" + from + "}");
            checkRules("a=b{" + from + ",}");
        }
        System.out.println(TEXTS + " texts of RULES (" + faults + " with a FAULT), as many of a DOCUMENT");
        System.out.println(wrong == 0 ? "all answers are as due" : wrong + " answers are not as due");
        if (wrong != 0 || faults < TEXTS / 10 || faults > TEXTS * 9 / 10) {
            System.exit(1);
        }
    }
}
