/** Reading at its bounds and one step beyond: promises 15 to 20, and what Terms 2 and 3 say of READINGS. */
public final class ReadingEdgesTest {
    private static final int NONE = Sheet.NONE;
    private static final int HIDDEN = Sheet.HIDDEN;
    private static final int MIN = Integer.MIN_VALUE;
    private static final int MAX = Integer.MAX_VALUE;
    private static final Sheet SHEET = new Sheet();

    private static ContentRules read(String pattern, String letters) {
        ContentRules x = SHEET.with("z=" + pattern);
        SHEET.due("read " + letters + " by " + pattern, Sheet.reads(x, 0, letters) >= 0, true);
        return x;
    }

    // ---- promise 15 ----

    private static void upToTwentyFourLetters() {
        ContentRules x = SHEET.with("a=b*;c=b{12}");
        for (int n : new int[] {0, 1, 11, 12, 13, 23, 24}) {
            SHEET.due("letters, " + n, Sheet.reads(x, 0, Sheet.repeat("b", "", n)), 1);
            SHEET.due("letters, " + n, x.read(1), n);
            SHEET.due("letters with blanks between, " + n, Sheet.reads(x, 0, Sheet.repeat("b", "  ", n)), 1);
            SHEET.due("letters with blanks between, " + n, x.read(1), n);
            SHEET.due("the TAPE (empty then)", x.count(0), 0);
            SHEET.due("1 it is a WORD, 0 it is not, " + n, Sheet.reads(x, 1, Sheet.repeat("b", "", n)), n == 12 ? 1 : 0);
            SHEET.due("the TAPE (empty then)", x.count(0), 0);
        }
        SHEET.due("blanks alone", Sheet.reads(x, 0, "    "), 1);
        SHEET.due("blanks alone", x.read(1), 0);
        SHEET.due("a 25th letter", Sheet.reads(x, 0, Sheet.repeat("b", "", 25)), -2 - 24);
        SHEET.due("a 25th letter", Sheet.reads(x, 0, Sheet.repeat("b", "", 30)), -2 - 24);
        SHEET.due("a 25th letter, blanks ahead", Sheet.reads(x, 0, " " + Sheet.repeat("b", "", 25)), -2 - 25);
        SHEET.due("a 25th letter, blanks between", Sheet.reads(x, 0, Sheet.repeat("b", " ", 25)), -2 - 48);
        SHEET.due("likewise: the TAPE stays", x.count(0), 49);
        SHEET.due("what was read stays", x.read(1), 0);
        SHEET.due("24 of them are left", x.end(47), true);
        SHEET.due("24 of them are read", x.reads(0), 1);
        SHEET.due("blanks behind 24", Sheet.reads(x, 0, Sheet.repeat("b", "", 24) + "  "), 1);
    }

    private static void otherBytes() {
        ContentRules x = SHEET.with("a=(a|z)*");
        SHEET.due("a .. z", Sheet.reads(x, 0, "az"), 1);
        for (int other : new int[] {1, 31, 33, 48, 61, 65, 90, 96, 123, 127, 128, 225, 255}) {
            char sign = (char) other;
            SHEET.due("another byte, first", Sheet.reads(x, 0, sign + "a"), -2);
            SHEET.due("another byte, second", Sheet.reads(x, 0, "a" + sign), -2 - 1);
            SHEET.due("another byte, behind a blank", Sheet.reads(x, 0, "a " + sign), -2 - 2);
            SHEET.due("likewise: the TAPE stays", x.count(0), 3);
            SHEET.due("what was read stays", x.read(1), 2);
        }
        SHEET.due("the first of two", Sheet.reads(x, 0, "a==="), -2 - 1);
        SHEET.due("another byte ahead of a 25th letter", Sheet.reads(x, 0, "=" + Sheet.repeat("a", "", 25)), -2);
        SHEET.due("a 25th letter ahead of another byte", Sheet.reads(x, 0, Sheet.repeat("a", "", 25) + "="), -2 - 24);
        SHEET.due("another byte behind 24", Sheet.reads(x, 0, Sheet.repeat("a", "", 24) + "="), -2 - 24);
        SHEET.due("the last byte of 400", Sheet.reads(x, 0, Sheet.repeat(" ", "", 399) + "="), -2 - 399);
        SHEET.due("a letter as the last byte of 400", Sheet.reads(x, 0, Sheet.repeat(" ", "", 399) + "a"), 1);
    }

    private static void byWhichRule() {
        ContentRules x = SHEET.with("a=b;c=d?,d;e=(b*)*;f=0");
        SHEET.due("the first RULE", Sheet.reads(x, 0, "b"), 1);
        SHEET.due("its number", x.read(0), 0);
        SHEET.due("the last RULE", Sheet.reads(x, 3, ""), 1);
        SHEET.due("its number", x.read(0), 3);
        SHEET.due("it isn't SURE", Sheet.reads(x, 1, "d"), NONE);
        SHEET.due("it isn't SURE (the TAPE stays)", x.count(0), 1);
        SHEET.due("CLEAR alone isn't SURE", x.reads(2), NONE);
        for (int no : new int[] {MIN, -2, -1, 4, 8, MAX}) {
            SHEET.due("no such RULE", x.reads(no), NONE);
            SHEET.due("no such RULE (the TAPE stays)", x.count(0), 1);
        }
        SHEET.due("what was read stays", x.read(0), 3);
        Sheet.tape(x, "=");
        SHEET.due("NONE ahead of -2 - place", x.reads(1), NONE);
        SHEET.due("NONE ahead of -2 - place", x.reads(4), NONE);
        SHEET.due("-2 - place", x.reads(0), -2);
        SHEET.due("no RULES", new ContentRules().reads(0), NONE);
    }

    // ---- promise 16 ----

    /** Letters and END that COULD COME behind the letters ahead of the place. */
    private static void place(String pattern, String letters, int isWord, int place, String could, int end) {
        ContentRules x = SHEET.with("z=" + pattern);
        String about = letters + " by " + pattern;
        SHEET.due("a WORD, " + about, Sheet.reads(x, 0, letters), isWord);
        SHEET.due("letters, " + about, x.read(1), letters.length());
        SHEET.due("the first place at which no WORD goes on so, " + about, x.read(2), place);
        SHEET.dueText("letters that COULD COME, " + about, Sheet.letters(x.read(3)), could);
        SHEET.due("whether the END could, " + about, x.read(4), end);
    }

    private static void placesAndWhatCouldCome() {
        place("b,c?", "", 0, 0, "b", 0);
        place("b,c?", "c", 0, 0, "b", 0);
        place("b,c?", "b", 1, 1, "c", 1);
        place("b,c?", "bb", 0, 1, "c", 1);
        place("b,c?", "bc", 1, 2, "", 1);
        place("b,c?", "bcc", 0, 2, "", 1);
        place("b,c", "b", 0, 1, "c", 0);
        place("b,c", "ba", 0, 1, "c", 0);
        place("0", "", 1, 0, "", 1);
        place("0", "b", 0, 0, "", 1);
        place("a|z", "", 0, 0, "az", 0);
        place("b{2,3}", "b", 0, 1, "b", 0);
        place("b{2,3}", "bb", 1, 2, "b", 1);
        place("b{2,3}", "bbb", 1, 3, "", 1);
        place("b{2,3}", "bbbb", 0, 3, "", 1);
        place("(b?){2}", "", 1, 0, "b", 1);
        place("(b?){2}", "bb", 1, 2, "", 1);
        place("(b,c){2,},d", "bc", 0, 2, "b", 0);
        place("(b,c){2,},d", "bcbc", 0, 4, "bd", 0);
        place("[b&c?&d],e", "b", 0, 1, "cd", 0);
        place("[b&c?&d],e", "bd", 0, 2, "ce", 0);
        place("[b&c?&d],e", "bdc", 0, 3, "e", 0);
        place("[b&c?&d],e", "bdb", 0, 2, "ce", 0);
        place("[b?&c?]", "cb", 1, 2, "", 1);
        place("b*", Sheet.repeat("b", "", 24), 1, 24, "b", 1);
        place("b*", Sheet.repeat("b", "", 23) + "c", 0, 23, "b", 1);
        place("b{12},b{12}", Sheet.repeat("b", "", 24), 1, 24, "", 1);
        place("b{12},b{12}", Sheet.repeat("b", "", 23), 0, 23, "b", 0);
    }

    private static void nothingWasRead() {
        ContentRules x = SHEET.with("a=b?,[c?&d?],e*");
        for (int i = -2; i <= 5; i++) {
            SHEET.due("nothing was: read", x.read(i), NONE);
            SHEET.due("nothing was: taken", x.taken(i, 0), HIDDEN);
            SHEET.due("nothing was: taken", x.taken(0, i), HIDDEN);
            SHEET.due("nothing was: times", x.times(i), HIDDEN);
            SHEET.due("nothing was: parts", x.parts(i), HIDDEN);
            SHEET.due("nothing was: mended", x.mended(i), NONE);
        }
        SHEET.due("refused", Sheet.reads(x, 0, "b="), -3);
        SHEET.due("nothing was: read", x.read(0), NONE);
        SHEET.due("read", Sheet.reads(x, 0, ""), 1);
        for (int no : new int[] {MIN, -2, -1, 5, 6, MAX}) {
            SHEET.due("no such what", x.read(no), NONE);
        }
        for (int what = 0; what <= 4; what++) {
            SHEET.due("a what", x.read(what) == NONE, false);
        }
        Sheet.tape(x, "a=b?,[c?&d?],e*");
        SHEET.due("RULES (nothing was read then)", x.rules(), 1);
        SHEET.due("nothing was: read", x.read(0), NONE);
        SHEET.due("nothing was: taken", x.taken(0, 0), HIDDEN);
        SHEET.due("nothing was: times", x.times(0), HIDDEN);
        SHEET.due("nothing was: parts", x.parts(0), HIDDEN);
        SHEET.due("nothing was: mended", x.mended(0), NONE);
    }

    private static void readByTheRuleAsItWas() {
        ContentRules x = SHEET.with("a=b{2},[c&d]?;e=f");
        SHEET.due("read", Sheet.reads(x, 0, "bbdc"), 1);
        SHEET.due("told anew", x.recount(0, 0, 1, 1), 1);
        SHEET.due("told anew", x.reletter(0, 1, 25), 1);
        int[] got = {x.read(0), x.read(1), x.read(2), x.read(3), x.read(4), x.taken(0, 0), x.taken(1, 0), x.taken(1, 1),
            x.taken(3, 0), x.times(0), x.times(1), x.parts(0)};
        SHEET.dueRow("by the RULE as it was", got, 0, 4, 4, 0, 1, 0, 0, 0, 1, 0, 1, 3);
        SHEET.due("a DOCUMENT changes nothing", Sheet.document(x, "e"), 1);
        SHEET.due("a DOCUMENT changes nothing", x.read(1), 4);
        SHEET.due("it is SURE then", x.recount(0, 0, 0, NONE), 1);
        SHEET.due("it isn't SURE then", x.reletter(0, 2, 1), 0);
        SHEET.due("by the RULE as it was", x.read(2), 4);
        SHEET.due("but MENDED by the RULE as it is", x.mended(0), NONE);
        SHEET.due("by another RULE", Sheet.reads(x, 1, "f"), 1);
        SHEET.due("that one alone is what was read last", x.times(0), HIDDEN);
        SHEET.due("that one alone is what was read last", x.parts(0), HIDDEN);
        SHEET.due("that one alone is what was read last", x.taken(1, 0), HIDDEN);
    }

    // ---- promises 17 to 19 ----

    private static void taken() {
        ContentRules x = SHEET.with("z=(b{1,2},c?){2,3},d");
        // It isn't SURE as it is told: a second b can begin a TIME of both COUNTS.
        SHEET.due("not SURE", Sheet.reads(x, 0, "bbcbbd"), NONE);
        SHEET.due("nothing was", x.taken(0, 0), HIDDEN);
        SHEET.due("SURE by now", x.recount(0, 0, 2, 2), 1);
        SHEET.due("read", Sheet.reads(x, 0, "bbcbbd"), 1);
        int[] occurrences = new int[5];
        int[] by = new int[5];
        for (int i = 0; i < 5; i++) {
            occurrences[i] = x.taken(i, 0);
            by[i] = x.taken(i, 1);
        }
        SHEET.dueRow("which OCCURRENCE", occurrences, 0, 0, 1, 0, 0);
        SHEET.dueRow("by which COUNT it goes on there (NONE: none)", by, NONE, 0, NONE, 2, 0);
        SHEET.due("the last one", x.taken(5, 0), 2);
        SHEET.due("the last one", x.taken(5, 1), NONE);
        SHEET.due("none such", x.taken(6, 0), HIDDEN);
        for (int no : new int[] {MIN, -2, -1, 6, 24, MAX}) {
            SHEET.due("none such", x.taken(no, 0), HIDDEN);
            SHEET.due("none such", x.taken(no, 1), HIDDEN);
        }
        for (int no : new int[] {MIN, -2, -1, 2, 3, MAX}) {
            SHEET.due("no such what", x.taken(0, no), HIDDEN);
        }
        SHEET.due("read", Sheet.reads(x, 0, "bba"), 0);
        SHEET.due("ahead of that place", x.taken(1, 0), 0);
        SHEET.due("at that place", x.taken(2, 0), HIDDEN);
        SHEET.due("read", Sheet.reads(x, 0, "a"), 0);
        SHEET.due("none ahead of that place", x.taken(0, 0), HIDDEN);
        ContentRules full = read("b*", Sheet.repeat("b", "", 24));
        SHEET.due("the last of 24", full.taken(23, 0), 0);
        SHEET.due("the last of 24", full.taken(23, 1), 0);
        SHEET.due("no 25th", full.taken(24, 0), HIDDEN);
        SHEET.due("the outermost one, if of several", read("(b{1})*", "bb").taken(1, 1), 1);
        SHEET.due("none between two OCCURRENCES of one TIME", read("(b,c)*", "bc").taken(1, 1), NONE);
        SHEET.due("none from one COUNT to the next", read("b*,c*", "bc").taken(1, 1), NONE);
    }

    private static void times(String pattern, String letters, int... want) {
        ContentRules x = read(pattern, letters);
        int[] got = new int[want.length];
        for (int i = 0; i < got.length; i++) {
            got[i] = x.times(i);
        }
        SHEET.dueRow("the how many-th TIME, " + letters + " by " + pattern, got, want);
        for (int no : new int[] {MIN, -2, -1, want.length, 8, MAX}) {
            SHEET.due("no such COUNT", x.times(no), HIDDEN);
        }
    }

    private static void timesOfCounts() {
        times("b*", "", 0);
        times("b*", "b", 1);
        times("b*", "bb", 2);
        times("b*", "bc", 1);
        times("b*", "c", 0);
        times("b", "b");
        times("b{12}", Sheet.repeat("b", "", 11), 11);
        times("b{12}", Sheet.repeat("b", "", 12), 12);
        times("b{12}", Sheet.repeat("b", "", 13), 12);
        times("b*", Sheet.repeat("b", "", 24), 24);
        times("b{12,},c", Sheet.repeat("b", "", 13), 13);
        times("b+,c", "bbc", 0);
        times("b*,c*", "bbc", 0, 1);
        times("(b{2},c?)+", "bb", 2, 0, 1);
        times("(b{2},c?)+", "bbc", 0, 1, 1);
        times("(b{2},c?)+", "bbcb", 1, 0, 2);
        times("(b{2},c?)+", "bbbb", 2, 0, 2);
        times("(b?){3}", "bb", 1, 2);
        times(Sheet.repeat("b?,c", ",", 8), Sheet.repeat("c", "", 7) + "b", 0, 0, 0, 0, 0, 0, 0, 1);
    }

    private static void parts(String pattern, String letters, int... want) {
        ContentRules x = read(pattern, letters);
        int[] got = new int[want.length];
        for (int i = 0; i < got.length; i++) {
            got[i] = x.parts(i);
        }
        SHEET.dueRow("PARTS over or under way, " + letters + " by " + pattern, got, want);
        for (int no : new int[] {MIN, -2, -1, want.length, 4, MAX}) {
            SHEET.due("no such ANY", x.parts(no), HIDDEN);
        }
    }

    private static void partsOfAnys() {
        parts("[b&c]", "", 0);
        parts("[b&c]", "d", 0);
        parts("[b&c]", "b", 1);
        parts("[b&c]", "c", 2);
        parts("[b&c]", "cb", 3);
        parts("[b&c]", "cbb", 3);
        parts("b", "b");
        parts("[b,c&d]", "b", 1);
        parts("[b&c&d&e]", "edcb", 15);
        parts("[b&c&d&e]", "e", 8);
        parts("d,[b&c]", "d", 0);
        parts("[b&c],d", "bcd", 0);
        parts("[b&c]+", "bc", 3);
        parts("[b&c]+", "bcc", 2);
        parts("[b&[c&d]]", "dc", 2, 3);
        parts("[b&[c&d]]", "b", 1, 0);
        parts("[b&[c&d]]", "cdb", 3, 0);
        parts("[b&c],[d&e],[f&g],[h&i]", "bcdefgi", 0, 0, 0, 2);
    }

    // ---- promise 20 ----

    private static void mended(String sentence, String pattern, String letters, int... want) {
        SHEET.dueRow("MENDED, " + sentence + ", " + letters + " by " + pattern, Sheet.mended(read(pattern, letters)), want);
    }

    private static void mendedLetters() {
        mended("nothing is needed", "b", "b", 0, NONE, NONE);
        mended("nothing is needed", "0", "", 0, NONE, NONE);
        mended("nothing is needed", "b*", Sheet.repeat("b", "", 24), 0, NONE, NONE);
        mended("it can't be so", "b,b", "", NONE, NONE, NONE);
        mended("it can't be so", "0", "bb", NONE, NONE, NONE);
        mended("it can't be so", "b,c", "dd", NONE, NONE, NONE);
        mended("one left out", "0", "b", 1, 0, NONE);
        mended("the first first", "b,c", "bbc", 1, 0, NONE);
        mended("the first first", "b,c", "bcc", 1, 1, NONE);
        mended("the last one", "b,c", "bcd", 1, 2, NONE);
        mended("ahead of one more", "b,(c,d)?", "bc", 1, 1, NONE);
        mended("ahead of another one", "b|c,d", "bd", 1, 1, NONE);
        mended("one more ahead of the first", "b,c", "c", 2, 0, 1);
        mended("ahead of the second", "b,c,d", "bd", 2, 1, 2);
        mended("at the end", "b,c", "b", 2, 1, 2);
        mended("of none", "b", "", 2, 0, 1);
        mended("the first place first", "b,b", "b", 2, 0, 1);
        mended("letters rising", "(d|c|b),e", "e", 2, 0, 1);
        mended("the place ahead of the letter", "d,e,b|e,c", "e", 2, 1, 2);
        mended("one more ahead of another one", "b,c|d,c,e", "dc", 2, 2, 4);
        mended("one in place of the first", "b,c", "dc", 3, 0, 1);
        mended("one in place of the last", "b,c", "bd", 3, 1, 2);
        mended("the first place first", "b,c|c,b", "bb", 3, 0, 2);
        mended("letters rising", "d|c|b", "e", 3, 0, 1);
        mended("letters that are in the RULE alone", "z", "a", 3, 0, 25);
        mended("the 24th left out", "b{12},b{11}", Sheet.repeat("b", "", 23) + "c", 1, 23, NONE);
        mended("a 25th", "b{12},b{12},c", Sheet.repeat("b", "", 24), 2, 24, 2);
        mended("another 24th", "b{12},b{12}", Sheet.repeat("b", "", 23) + "c", 3, 23, 1);
    }

    private static void mendedArguments() {
        ContentRules x = read("b,c", "b");
        for (int no : new int[] {MIN, -2, -1, 3, 4, MAX}) {
            SHEET.due("no such what", x.mended(no), NONE);
        }
        SHEET.dueRow("one more", Sheet.mended(x), 2, 1, 2);
        SHEET.due("told anew", x.reletter(0, 1, 4), 1);
        SHEET.dueRow("by the RULE as it is now", Sheet.mended(x), 2, 1, 4);
        SHEET.due("refused", Sheet.reads(x, 0, "="), -2);
        SHEET.dueRow("what was read", Sheet.mended(x), 2, 1, 4);
        ContentRules y = read("b?,c", "bc");
        SHEET.dueRow("nothing is needed", Sheet.mended(y), 0, NONE, NONE);
        SHEET.due("told anew: not SURE", y.reletter(0, 1, 1), 0);
        SHEET.dueRow("if it is SURE", Sheet.mended(y), NONE, NONE, NONE);
        SHEET.due("told anew: SURE", y.recount(0, 0, 1, 1), 1);
        SHEET.dueRow("if it is SURE", Sheet.mended(y), 3, 1, 1);
        SHEET.due("a what that is none", y.mended(3), NONE);
    }

    public static void main(String[] args) {
        upToTwentyFourLetters();
        otherBytes();
        byWhichRule();
        placesAndWhatCouldCome();
        nothingWasRead();
        readByTheRuleAsItWas();
        taken();
        timesOfCounts();
        partsOfAnys();
        mendedLetters();
        mendedArguments();
        SHEET.close();
    }
}
