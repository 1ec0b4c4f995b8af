/** RULES at their bounds and one step beyond: Terms 2, promises 7 to 14, 21, 25 and 26. */
public final class RuleEdgesTest {
    private static final int NONE = Sheet.NONE;
    private static final int HIDDEN = Sheet.HIDDEN;
    private static final int NO_SUCH = Sheet.NO_SUCH;
    private static final int MIN = Integer.MIN_VALUE;
    private static final int MAX = Integer.MAX_VALUE;
    private static final Sheet SHEET = new Sheet();
    private static final String SIXTEEN = "a,b,c,d,e,f,g,h,i,j,k,l,m,n,o,p";

    /** What a PATTERN as the only RULE answers. */
    private static void rule(String sentence, String pattern, int what, int want) {
        SHEET.due(sentence + ", " + pattern, SHEET.with("z=" + pattern).rule(0, what), want);
    }

    /** Of words of b which are WORDS, from none to as many as there are signs: y, n. */
    private static void wordsOfB(String sentence, String pattern, String which) {
        ContentRules x = SHEET.with("z=" + pattern);
        for (int n = 0; n < which.length(); n++) {
            int got = Sheet.reads(x, 0, Sheet.repeat("b", "", n));
            SHEET.due(sentence + ", " + pattern + ", " + n, got, which.charAt(n) == 'y' ? 1 : 0);
        }
    }

    private static void isWord(String sentence, String pattern, String word, boolean is) {
        SHEET.due(sentence + ", " + pattern + ", " + word, Sheet.reads(SHEET.with("z=" + pattern), 0, word), is ? 1 : 0);
    }

    // ---- Terms 2: WORDS ----

    private static void soManyTimes() {
        wordsOfB("? (0 or 1 times)", "b?", "yyn");
        wordsOfB("* (0 or more)", "b*", "yyyyyyyyyyyyyyy");
        wordsOfB("+ (1 or more)", "b+", "nyyyyyyyyyyyyyy");
        wordsOfB("{ N } (N times)", "b{1}", "nyn");
        wordsOfB("{ N } (N times)", "b{2}", "nnyn");
        wordsOfB("{ N } (N times)", "b{12}", "nnnnnnnnnnnnyn");
        wordsOfB("{ N , } (N or more)", "b{0,}", "yyyyyyyyyyyyyyy");
        wordsOfB("{ N , } (N or more)", "b{2,}", "nnyyyyyyyyyyyyy");
        wordsOfB("{ N , } (N or more)", "b{12,}", "nnnnnnnnnnnnyyy");
        wordsOfB("{ N , N } (from .. to)", "b{0,1}", "yyn");
        wordsOfB("{ N , N } (from .. to)", "b{2,3}", "nnyyn");
        wordsOfB("{ N , N } (from .. to)", "b{0,12}", "yyyyyyyyyyyyyn");
        wordsOfB("{ N , N } (from .. to)", "b{11,12}", "nnnnnnnnnnnyyn");
        wordsOfB("{ N , N } (from .. to)", "b{12,12}", "nnnnnnnnnnnnyn");
        wordsOfB("fewer TIMES do", "(b?){2}", "yyyn");
        wordsOfB("fewer TIMES do", "(b?){2,}", "yyyyy");
        wordsOfB("fewer TIMES do", "(0|b){3,4}", "yyyyyn");
        wordsOfB("fewer TIMES do not", "(b,0){3,4}", "nnnyyn");
        wordsOfB("fewer of the outer TIMES do", "(b{2}|0){2}", "ynynyn");
        wordsOfB("fewer of the inner TIMES do not", "(b{2}){0,2}", "ynynyn");
        wordsOfB("of 0 the empty one", "0", "yn");
        wordsOfB("of 0 the empty one", "0{12}", "yn");
        wordsOfB("of 0 the empty one", "0+,b", "nyn");
        wordsOfB("of a letter it", "b", "nyn");
        wordsOfB("one of these", "0|b", "yyn");
        wordsOfB("one behind the other", "b,b", "nnyn");
    }

    private static void inAnyOrder() {
        for (String word : new String[] {"bcd", "bdc", "cbd", "cdb", "dbc", "dcb"}) {
            isWord("PARTS in any order", "[b&c&d]", word, true);
            isWord("each PART once", "[b&c&d]", word + "b", false);
            isWord("each PART", "[b&c&d]", word.substring(1), false);
        }
        isWord("those that have the empty WORD may be left out", "[b&c?]", "b", true);
        isWord("those that have the empty WORD may be left out", "[b&c?]", "c", false);
        isWord("those that have the empty WORD may be left out", "[b&c?]", "cb", true);
        isWord("those that have the empty WORD may be left out", "[b&c?]", "", false);
        isWord("all may be left out", "[b?&c?]", "", true);
        isWord("each PART once", "[b?&c?]", "bcb", false);
        isWord("a PART is not parted", "[b,c&d]", "bdc", false);
        isWord("a PART is not parted", "[b,c&d]", "dbc", true);
        isWord("a PART's TIMES are one behind the other", "[b{2}&c]", "bcb", false);
        isWord("a PART's TIMES are one behind the other", "[b{2}&c]", "cbb", true);
        isWord("PARTS of 0", "[0&0]", "", true);
        isWord("anew at each TIME", "[b&c]{2}", "bccb", true);
        isWord("anew at each TIME", "[b&c]{2}", "bcc", false);
    }

    // ---- promise 7 ----

    private static void ruleArguments() {
        ContentRules x = SHEET.with("a=b;c=d");
        ContentRules none = new ContentRules();
        for (int what = 0; what <= 10; what++) {
            SHEET.due("a RULE's what", SHEET.throwsFor(x, 0, what), false);
            SHEET.due("the last RULE's what", SHEET.throwsFor(x, 1, what), false);
            SHEET.due("no such RULE", SHEET.throwsFor(x, 2, what), true);
            SHEET.due("no such RULE", SHEET.throwsFor(x, -1, what), true);
            SHEET.due("no RULES", SHEET.throwsFor(none, 0, what), true);
        }
        for (int no : new int[] {MIN, -2, -1, 11, 12, MAX}) {
            SHEET.due("no such what", SHEET.throwsFor(x, 0, no), true);
            SHEET.due("no such RULE", SHEET.throwsFor(x, no, 0), true);
        }
        ContentRules eight = SHEET.with("s=0;t=0;u=0;v=0;w=0;x=0;y=0;z=0");
        for (int i = 0; i < 8; i++) {
            SHEET.due("by its number, as told", eight.rule(i, 0), 18 + i);
        }
        SHEET.due("no ninth RULE", SHEET.throwsFor(eight, 8, 0), true);
    }

    private static void whatARuleHas() {
        rule("OCCURRENCES", "0", 1, 0);
        rule("OCCURRENCES", "b", 1, 1);
        rule("OCCURRENCES", SIXTEEN, 1, 16);
        rule("COUNTS", "b", 2, 0);
        rule("COUNTS", "b?", 2, 1);
        rule("COUNTS", Sheet.repeat("0?", ",", 8), 2, 8);
        rule("ANYS", "b", 3, 0);
        rule("ANYS", "[b&c]", 3, 1);
        rule("ANYS", "[0&[0&0]],[0&[0&0]]", 3, 4);
        rule("letters that are in it", "0", 10, 0);
        rule("letters that are in it", "a", 10, 1);
        rule("letters that are in it", "z,z", 10, 1 << 25);
        rule("letters that are in it", "(y|a)*", 10, 1 << 24 | 1);
        rule("letters that are in it", SIXTEEN, 10, 65535);
        rule("its letter", "b", 0, 25);
    }

    private static void emptyWords() {
        String sentence = "whether it has the empty WORD";
        String[] with = {"0", "b?", "b*", "b{0,}", "b{0,1}", "b{0,12}", "(b?){12}", "(b*)+", "b|0", "b?,c*", "[b?&c*]", "0+"};
        String[] without = {"b", "b+", "b{1}", "b{1,}", "b{12}", "b?,c", "b,c?", "b|c", "[b?&c]", "[b&c?]", "b,0", "(b|c)+"};
        for (String pattern : with) {
            rule(sentence, pattern, 4, 1);
        }
        for (String pattern : without) {
            rule(sentence, pattern, 4, 0);
        }
    }

    private static void lengthsOfWords() {
        String longest = "((" + SIXTEEN + "){12}){12}";
        rule("letters of its shortest WORD", "0", 8, 0);
        rule("letters of its shortest WORD", "b?", 8, 0);
        rule("letters of its shortest WORD", "b", 8, 1);
        rule("letters of its shortest WORD", "b+", 8, 1);
        rule("letters of its shortest WORD", "b{12,}", 8, 12);
        rule("letters of its shortest WORD", "b,c,d|e,f", 8, 2);
        rule("letters of its shortest WORD", "[b{2}&c?&d]", 8, 3);
        rule("letters of its shortest WORD", longest, 8, 2304);
        rule("letters of its longest", "0", 9, 0);
        rule("letters of its longest", "0*", 9, 0);
        rule("letters of its longest", "(0,0*)+", 9, 0);
        rule("letters of its longest", "b", 9, 1);
        rule("letters of its longest", "b{12}", 9, 12);
        rule("letters of its longest", "b,c,d|e,f", 9, 3);
        rule("letters of its longest", "[b{2}&c?&d]", 9, 4);
        rule("letters of its longest", longest, 9, 2304);
        rule("NONE: without end", "b*", 9, NONE);
        rule("NONE: without end", "b+", 9, NONE);
        rule("NONE: without end", "b{12,}", 9, NONE);
        rule("NONE: without end", "b,(c|d,e*)", 9, NONE);
        rule("NONE: without end", "[b&c*]", 9, NONE);
        rule("NONE: without end", "(b*,c?){2}", 9, NONE);
    }

    /** Whether a RULE is CLEAR, is SURE, and its CONFLICTS. */
    private static void unsure(String pattern, int clear, int sure, int conflicts) {
        ContentRules x = SHEET.with("z=" + pattern);
        int[] got = {x.rule(0, 5), x.rule(0, 6), x.rule(0, 7)};
        SHEET.dueRow("CLEAR, SURE, CONFLICTS, " + pattern, got, clear, sure, conflicts);
    }

    private static void conflicts() {
        unsure("0", 1, 1, 0);
        unsure("b|c", 1, 1, 0);
        unsure("b|b", 0, 0, 1);
        unsure("b|b|b", 0, 0, 3);
        unsure("b|c|b|c", 0, 0, 2);
        unsure("b?,b", 0, 0, 1);
        unsure("b,b?", 1, 1, 0);
        unsure("b*,b", 0, 0, 2);
        unsure("(b,c)?,b", 0, 0, 1);
        // One OCCURRENCE alone by two COUNTS, or by a COUNT and by none.
        unsure("(b{1,2}){2}", 1, 0, 1);
        unsure("(b{2}){2}", 1, 1, 0);
        unsure("(b*)*", 1, 0, 1);
        unsure("(b?)*", 1, 1, 0);
        unsure("(b*)?", 1, 1, 0);
        // From as many as to: nothing is left where it can end.
        unsure("b{2,3},b", 0, 0, 1);
        unsure("b{3,3},b", 1, 1, 0);
        unsure("b{1,},b", 0, 0, 1);
        unsure("b{1},b", 1, 1, 0);
        unsure("b{0,1},b", 0, 0, 1);
        // A PART over can't begin once more, one that isn't over keeps the end away.
        unsure("[b&c],b", 1, 1, 0);
        unsure("[b&c?],b", 1, 1, 0);
        unsure("[b?&c],b", 0, 0, 1);
        unsure("[b&b]", 0, 0, 1);
        unsure("[b?&c?]{2}", 1, 0, 2);
        unsure("[b&c]{2}", 1, 1, 0);
    }

    // ---- Terms 2, promise 8: OCCURRENCES ----

    private static int[] all(ContentRules x, int count, int what) {
        int[] got = new int[count];
        for (int i = 0; i < count; i++) {
            got[i] = x.occurrence(0, i, what);
        }
        return got;
    }

    private static void occurrences(String sentence, String pattern, int what, int... want) {
        ContentRules x = SHEET.with("z=" + pattern);
        SHEET.dueRow(sentence + ", " + pattern, all(x, want.length, what), want);
        SHEET.due(sentence + ": no more, " + pattern, x.occurrence(0, want.length, what), NO_SUCH);
    }

    private static void occurrenceArguments() {
        ContentRules x = SHEET.with("a=b,c;d=0");
        for (int what = 0; what <= 6; what++) {
            SHEET.due("an OCCURRENCE's what", x.occurrence(0, 1, what) == NO_SUCH, false);
            SHEET.due("no such OCCURRENCE", x.occurrence(0, 2, what), NO_SUCH);
            SHEET.due("no such OCCURRENCE", x.occurrence(0, -1, what), NO_SUCH);
            SHEET.due("no OCCURRENCES", x.occurrence(1, 0, what), NO_SUCH);
            SHEET.due("no such RULE", x.occurrence(2, 0, what), NO_SUCH);
            SHEET.due("no such RULE", x.occurrence(-1, 0, what), NO_SUCH);
        }
        for (int no : new int[] {MIN, -2, -1, 7, 16, MAX}) {
            SHEET.due("no such what", x.occurrence(0, 0, no), NO_SUCH);
            SHEET.due("no such OCCURRENCE", x.occurrence(0, no, 0), NO_SUCH);
            SHEET.due("no such RULE", x.occurrence(no, 0, 0), NO_SUCH);
        }
        ContentRules most = SHEET.with("z=" + SIXTEEN);
        SHEET.due("the last of 16", most.occurrence(0, 15, 0), 15);
        SHEET.due("no 17th", most.occurrence(0, 16, 0), NO_SUCH);
    }

    private static void firstLastNext() {
        occurrences("its letter, from the left", "z,(a|y)", 0, 25, 0, 24);
        occurrences("FIRST", "b?,c,d", 1, 1, 1, 0);
        occurrences("FIRST", "b,c", 1, 1, 0);
        occurrences("FIRST", "(b{0,1}|0,c),d", 1, 1, 1, 1);
        occurrences("FIRST", "[b,c&d]", 1, 1, 0, 1);
        occurrences("LAST", "b,c,d?", 2, 0, 1, 1);
        occurrences("LAST", "b,c", 2, 0, 1);
        occurrences("LAST", "[b,c&d]", 2, 0, 1, 1);
        occurrences("LAST", "(b,c?){2}", 2, 1, 1);
        occurrences("NEXT", "b,c?,d,e", 3, 6, 4, 8, 0);
        occurrences("NEXT by a COUNT", "(b,c){1}", 3, 2, 0);
        occurrences("NEXT by a COUNT", "(b,c){0,1}", 3, 2, 0);
        occurrences("NEXT by a COUNT", "(b,c){1,2}", 3, 2, 1);
        occurrences("NEXT by a COUNT", "(b,c){2}", 3, 2, 1);
        occurrences("NEXT by a COUNT", "(b,c)*", 3, 2, 1);
        occurrences("NEXT in an ANY", "[b&c&d?]", 3, 6, 5, 3);
        occurrences("NEXT in an ANY", "[b,c&d]", 3, 2, 4, 1);
        occurrences("NEXT behind an ANY", "[b&c],d", 3, 6, 5, 0);
        occurrences("NEXT of one in itself", "b{2}", 3, 1);
        occurrences("NEXT of one in itself", "b{1}", 3, 0);
    }

    private static void aroundOccurrences() {
        occurrences("the outer COUNT around it (NONE; one alone is the outer)", "a,b?,((c+)?|d)", 4, NONE, 0, 2, NONE);
        occurrences("the inner COUNT around it", "a,b?,((c+)?|d)", 5, NONE, NONE, 1, NONE);
        occurrences("the outer COUNT", "(a*,b)+,(c,d?)*", 4, 1, 1, 3, 3);
        occurrences("the inner COUNT", "(a*,b)+,(c,d?)*", 5, 0, NONE, NONE, 2);
        occurrences("ANYS around it", "a,[b&c],[d&[e&0]&f]", 6, 0, 1, 1, 2, 6, 2);
        occurrences("ANYS around it", "[b&[c&[d&[e&f]]]]", 6, 1, 3, 7, 15, 15);
    }

    // ---- promise 9: COUNTS ----

    private static void counted(String sentence, String pattern, int what, int... want) {
        ContentRules x = SHEET.with("z=" + pattern);
        int[] got = new int[want.length];
        for (int i = 0; i < got.length; i++) {
            got[i] = x.counted(0, i, what);
        }
        SHEET.dueRow(sentence + ", " + pattern, got, want);
        SHEET.due(sentence + ": no more, " + pattern, x.counted(0, want.length, what), NO_SUCH);
    }

    private static void counts() {
        String signs = "a?,b*,c+,d{1},e{12},f{0,},g{12,},h{0,1}";
        counted("from", signs, 0, 0, 0, 1, 1, 12, 0, 12, 0);
        counted("to (NONE: without end)", signs, 1, 1, NONE, NONE, 1, 12, NONE, NONE, 1);
        counted("from", "a{00,12},b{01},c{02,03}", 0, 0, 1, 2);
        counted("to", "a{00,12},b{01},c{02,03}", 1, 12, 1, 3);
        counted("numbered by their signs", "(a?,b*)+,c?", 0, 0, 0, 1, 0);
        counted("the COUNT next around it (NONE)", "(a?,b*)+,(c,[d&e?])*,f?", 2, 2, 2, NONE, 4, NONE, NONE);
        counted("OCCURRENCES in it", "(a?,b*)+,(c,[d&e?])*,0?", 3, 1, 2, 3, 16, 28, 0);
        counted("OCCURRENCES in it", "(" + SIXTEEN + ")*", 3, 65535);
        counted("whether what is counted has the empty WORD", "a?,0?,(b?)?,(c+)*,(d|0)+,(e,f)*", 4, 0, 1, 0, 1, 0, 0, 1, 0);
        ContentRules x = SHEET.with("a=b?,c*;d=e");
        for (int what = 0; what <= 4; what++) {
            SHEET.due("a COUNT's what", x.counted(0, 1, what) == NO_SUCH, false);
            SHEET.due("no such COUNT", x.counted(0, 2, what), NO_SUCH);
            SHEET.due("no such COUNT", x.counted(0, -1, what), NO_SUCH);
            SHEET.due("no COUNTS", x.counted(1, 0, what), NO_SUCH);
            SHEET.due("no such RULE", x.counted(2, 0, what), NO_SUCH);
            SHEET.due("no such RULE", x.counted(-1, 0, what), NO_SUCH);
        }
        for (int no : new int[] {MIN, -2, -1, 5, 8, MAX}) {
            SHEET.due("no such what", x.counted(0, 0, no), NO_SUCH);
            SHEET.due("no such COUNT", x.counted(0, no, 0), NO_SUCH);
            SHEET.due("no such RULE", x.counted(no, 0, 0), NO_SUCH);
        }
    }

    // ---- promise 10: ANYS ----

    private static void anys() {
        ContentRules x = SHEET.with("a=[b&c],[d&e,f&0],[g&h&i&(j|k)];l=m");
        SHEET.dueRow("2 PARTS", parts(x, 0), 2, 1, 2, NONE, NONE, NONE);
        SHEET.dueRow("3 PARTS, one of nothing", parts(x, 1), 3, 4, 24, 0, NONE, NONE);
        SHEET.dueRow("4 PARTS", parts(x, 2), 4, 32, 64, 128, 768, NONE);
        SHEET.due("no such ANY", x.any(0, 3, 0), NONE);
        SHEET.due("no such ANY", x.any(0, 3, 1), NONE);
        SHEET.due("no ANYS", x.any(1, 0, 0), NONE);
        SHEET.due("no such RULE", x.any(2, 0, 0), NONE);
        for (int no : new int[] {MIN, -2, -1, 5, 6, MAX}) {
            SHEET.due("no such what", x.any(0, 2, no), NONE);
            SHEET.due("no such ANY", x.any(0, no, 0), NONE);
            SHEET.due("no such RULE", x.any(no, 0, 0), NONE);
        }
        ContentRules y = SHEET.with("a=[[b&c]&[d&[e&f]]]");
        SHEET.dueRow("by its [", parts(y, 0), 2, 3, 28, NONE, NONE, NONE);
        SHEET.dueRow("by its [", parts(y, 1), 2, 1, 2, NONE, NONE, NONE);
        SHEET.dueRow("by its [", parts(y, 2), 2, 4, 24, NONE, NONE, NONE);
        SHEET.dueRow("by its [", parts(y, 3), 2, 8, 16, NONE, NONE, NONE);
        SHEET.due("no fifth", y.any(0, 4, 0), NONE);
    }

    private static int[] parts(ContentRules x, int any) {
        int[] got = new int[6];
        for (int what = 0; what < got.length; what++) {
            got[what] = x.any(0, any, what);
        }
        return got;
    }

    // ---- Terms 2, promises 11 and 12: WITNESS ----

    /** P, both WAYS (OCCURRENCE, COUNT), and all letters that are shown. */
    private static void witness(String sentence, String pattern, boolean unclear, String shown, int... want) {
        ContentRules x = SHEET.with("z=" + pattern);
        int[] all = java.util.Arrays.copyOf(want, 6);
        all[5] = shown.length() - 1;
        SHEET.dueRow(sentence + ", " + pattern, Sheet.witness(x, 0, unclear), all);
        SHEET.dueText(sentence + ", " + pattern, Sheet.shown(x, 0, unclear), shown);
    }

    private static void witnesses() {
        witness("the shortest READ letters", "c,b,(d|d)|e,(a|a)", false, "ea", 4, 5, NONE, 6, NONE);
        witness("of several the first by letters", "c,(a|a)|b,(d|d)", false, "bd", 3, 4, NONE, 5, NONE);
        witness("of several the first by letters", "b,(d|d)|c,(a|a)", false, "bd", 0, 1, NONE, 2, NONE);
        witness("P, NONE ahead of all", "(a|b),c|a", false, "a", NONE, 0, NONE, 3, NONE);
        witness("then the lowest OCCURRENCE of a WAY", "b|c|c|b", true, "b", NONE, 0, NONE, 3, NONE);
        witness("then so the other WAY's", "b|b|b", true, "b", NONE, 0, NONE, 1, NONE);
        witness("then its COUNT, none ahead of all", "(b,[b?&c?])*", true, "bb", 0, 0, 2, 1, NONE);
        witness("none ahead of all", "[b?&c?]*", false, "bc", 0, 1, NONE, 1, 2);
        witness("lower COUNTS first", "(b*)*", false, "bb", 0, 0, 0, 0, 1);
        witness("lower COUNTS first", "(b{1,2}){2}", false, "bb", 0, 0, 0, 0, 1);
        // The lower WAY decides, whichever of the others is lower.
        witness("then the lowest OCCURRENCE of a WAY", "(b|c|d,(c|b)?)*", false, "db", 2, 0, 1, 4, NONE);
        // One with a lower WAY stands behind more TIMES.
        witness("the shortest READ letters", "((a,b,(c|c|0)){2},(a|d)?)*", false, "abc", 1, 2, NONE, 3, NONE);
        witness("not CLEAR: unlike OCCURRENCES alone", "(b{1,2}){2},c,(d|d)", true, "bbcd", 1, 2, NONE, 3, NONE);
        witness("not SURE: these, too", "(b{1,2}){2},c,(d|d)", false, "bb", 0, 0, 0, 0, 1);
        witness("as many TIMES as are needed", "(b,c){3,4},b", false, "bcbcbcb", 1, 0, 0, 2, NONE);
        witness("as many TIMES as are needed", "(b,c){1,4},b", false, "bcb", 1, 0, 0, 2, NONE);
        witness("PARTS that must be over", "[b?&c&d],b", false, "cdb", 2, 0, NONE, 3, NONE);
        witness("letters of it in any order, the first by letters", "[d&c&b],(a|a)", false, "bcda", 0, 3, NONE, 4, NONE);
    }

    private static void witnessArguments() {
        ContentRules x = SHEET.with("a=b,(c|c);d=e;f=(b{1,2}){2};g=b|b");
        for (int what = 0; what <= 5; what++) {
            SHEET.due("a WITNESS's what", x.witness(0, false, what) == HIDDEN, false);
            SHEET.due("there is none: it is SURE", x.witness(1, false, what), HIDDEN);
            SHEET.due("there is none: it is CLEAR", x.witness(1, true, what), HIDDEN);
            SHEET.due("there is none: it is CLEAR", x.witness(2, true, what), HIDDEN);
            SHEET.due("it isn't SURE", x.witness(2, false, what) == HIDDEN, false);
            SHEET.due("no such RULE", x.witness(4, false, what), HIDDEN);
            SHEET.due("no such RULE", x.witness(-1, true, what), HIDDEN);
        }
        for (int no : new int[] {MIN, -2, -1, 6, 7, MAX}) {
            SHEET.due("no such what", x.witness(0, false, no), HIDDEN);
            SHEET.due("no such what", x.witness(0, true, no), HIDDEN);
            SHEET.due("no such RULE", x.witness(no, false, 0), HIDDEN);
            SHEET.due("no such RULE", x.shown(no, false, 0), NONE);
            SHEET.due("no such letter", x.shown(0, false, no), NONE);
        }
        SHEET.due("the k-th letter ahead", x.shown(0, true, 0), 1);
        SHEET.due("behind these, the one that can be taken", x.shown(0, true, 1), 2);
        SHEET.due("no more", x.shown(0, true, 2), NONE);
        SHEET.due("none ahead", x.witness(3, true, 5), 0);
        SHEET.due("none ahead", x.shown(3, true, 0), 1);
        SHEET.due("no more", x.shown(3, true, 1), NONE);
        SHEET.due("there is none: it is SURE", x.shown(1, false, 0), NONE);
        SHEET.due("there is none: it is CLEAR", x.shown(2, true, 0), NONE);
        SHEET.due("no such RULE", x.shown(4, false, 0), NONE);
        ContentRules none = new ContentRules();
        SHEET.due("no RULES", none.witness(0, false, 0), HIDDEN);
        SHEET.due("no RULES", none.shown(0, false, 0), NONE);
        SHEET.due("told anew: SURE", x.reletter(0, 1, 3), 1);
        SHEET.due("there is none by now", x.witness(0, false, 0), HIDDEN);
        SHEET.due("there is none by now", x.shown(0, false, 0), NONE);
        SHEET.due("told anew: not SURE", x.reletter(0, 1, 2), 0);
        SHEET.dueText("there is one by now", Sheet.shown(x, 0, false), "bc");
    }

    // ---- promises 13 and 14 ----

    private static void shortestWords() {
        String sentence = "of several the first by letters";
        String[][] dues = {{"b", "b"}, {"0", ""}, {"b?", ""}, {"b+", "b"}, {"c|b", "b"}, {"b|c", "b"}, {"b,b|c", "c"},
            {"b,d|b,c", "bc"}, {"d,b|c,e", "ce"}, {"[c&b]", "bc"}, {"[b&c?]", "b"}, {"[b,c&b]", "bbc"}, {"[b,a&b]", "bab"},
            {"(c|b){2,3}", "bb"}, {"b{12}", "bbbbbbbbbbbb"}, {"(c,b|b,c),a?", "bc"}, {"z,a,y?", "za"}};
        for (String[] due : dues) {
            ContentRules x = SHEET.with("z=" + due[0]);
            SHEET.dueText(sentence + ", " + due[0], Sheet.shortest(x, 0), due[1]);
        }
        ContentRules x = SHEET.with("a=b,c;d=0");
        SHEET.due("first", x.shortest(0, 0), 1);
        SHEET.due("last", x.shortest(0, 1), 2);
        SHEET.due("no such letter", x.shortest(0, 2), NONE);
        SHEET.due("no letters", x.shortest(1, 0), NONE);
        SHEET.due("no such RULE", x.shortest(2, 0), NONE);
        SHEET.due("no RULES", new ContentRules().shortest(0, 0), NONE);
        for (int no : new int[] {MIN, -2, -1, 2304, MAX}) {
            SHEET.due("no such letter", x.shortest(0, no), NONE);
            SHEET.due("no such RULE", x.shortest(no, 0), NONE);
        }
    }

    private static void words(String pattern, int... want) {
        ContentRules x = SHEET.with("z=" + pattern);
        int[] got = new int[5];
        for (int n = 0; n < got.length; n++) {
            got[n] = x.words(0, n);
        }
        SHEET.dueRow("how many WORDS of n letters (0 .. 4), " + pattern, got, want);
        for (int no : new int[] {MIN, -2, -1, 5, 6, MAX}) {
            SHEET.due("no such n", x.words(0, no), NONE);
        }
    }

    private static void numbersOfWords() {
        words("0", 1, 0, 0, 0, 0);
        words("b", 0, 1, 0, 0, 0);
        words("b?", 1, 1, 0, 0, 0);
        words("b*", 1, 1, 1, 1, 1);
        words("b{4}", 0, 0, 0, 0, 1);
        words("b{5}", 0, 0, 0, 0, 0);
        words("b{3,5}", 0, 0, 0, 1, 1);
        words("(b|c){2,3}", 0, 0, 4, 8, 0);
        words("((b|c)?){3}", 1, 2, 4, 8, 0);
        words("[b&c&d&e]", 0, 0, 0, 0, 24);
        words("[b?&c?&d?&e?]", 1, 4, 12, 24, 24);
        words("[b,c&d|e]", 0, 0, 0, 4, 0);
        words("(a|b|c|d|e|f|g|h|i|j|k|l|m|n|o|p)*", 1, 16, 256, 4096, 65536);
        ContentRules x = SHEET.with("a=b?,b;c=(b*)*;d=e");
        for (int n = 0; n < 5; n++) {
            SHEET.due("it isn't SURE", x.words(0, n), NONE);
            SHEET.due("CLEAR alone isn't SURE", x.words(1, n), NONE);
            SHEET.due("no such RULE", x.words(3, n), NONE);
            SHEET.due("no such RULE", x.words(-1, n), NONE);
        }
        SHEET.due("a RULE", x.words(2, 1), 1);
        SHEET.due("no such RULE", x.words(MAX, 1), NONE);
        SHEET.due("no RULES", new ContentRules().words(0, 0), NONE);
    }

    // ---- promise 21 ----

    private static void unlike(String sentence, String one, String other, String want) {
        ContentRules x = SHEET.with("y=" + one + ";z=" + other);
        SHEET.dueText(sentence + ", " + one + " " + other, Sheet.unlike(x, 0, 1), want);
        SHEET.dueText(sentence + ", " + other + " " + one, Sheet.unlike(x, 1, 0), want);
    }

    private static void unlikeRules() {
        unlike("the shortest", "b?", "b", "");
        unlike("the shortest", "b", "c", "b");
        unlike("the shortest", "b,b|c", "b,b|d", "c");
        unlike("the shortest", "b,c|d,b", "b,c|d,c", "db");
        unlike("of several the first by letters", "c|d", "d|b", "b");
        unlike("of several the first by letters", "b,(d|e)", "b,(c|d)", "bc");
        unlike("4 letters at most", "b{0,2}", "b*", "bbb");
        unlike("4 letters at most", "b{0,3}", "b*", "bbbb");
        unlike("4 letters at most", "b{0,4}", "b*", "none");
        unlike("4 letters at most", "b{4}", "c{4}", "bbbb");
        unlike("4 letters at most", "b{5}", "c{5}", "none");
        unlike("all letters of it", "b,c,d,e", "b,c,d,f", "bcde");
        unlike("all letters of it", "b,c,d", "b,c,e", "bcd");
        unlike("there is none such", "[b&c]", "b,c|c,b", "none");
        unlike("there is none such", "0", "0{12}", "none");
        unlike("a letter that one alone has", "b", "b|z", "z");
        ContentRules x = SHEET.with("a=b,c;d=b,e;f=b?,b;g=(b*)*;h=b,c");
        SHEET.due("how many letters (k NONE)", x.unlike(0, 1, NONE), 2);
        SHEET.due("the first", x.unlike(0, 1, 0), 1);
        SHEET.due("the last", x.unlike(0, 1, 1), 2);
        SHEET.due("no such letter", x.unlike(0, 1, 2), NONE);
        SHEET.due("there is none such", x.unlike(0, 4, NONE), NONE);
        SHEET.due("there is none such", x.unlike(0, 4, 0), NONE);
        SHEET.due("a RULE and itself", x.unlike(0, 0, NONE), NONE);
        SHEET.due("one isn't SURE", x.unlike(2, 0, NONE), NONE);
        SHEET.due("the other isn't SURE", x.unlike(0, 2, NONE), NONE);
        SHEET.due("one is CLEAR alone", x.unlike(3, 0, 0), NONE);
        SHEET.due("the other is CLEAR alone", x.unlike(0, 3, 0), NONE);
        SHEET.due("no such RULE", x.unlike(5, 0, NONE), NONE);
        SHEET.due("no such RULE", x.unlike(0, 5, NONE), NONE);
        SHEET.due("no such RULES", x.unlike(5, 5, NONE), NONE);
        for (int no : new int[] {MIN, -2, 2, 3, 4, MAX}) {
            SHEET.due("no such letter", x.unlike(0, 1, no), NONE);
        }
        for (int no : new int[] {MIN, -2, -1, 8, MAX}) {
            SHEET.due("no such RULE", x.unlike(no, 0, NONE), NONE);
            SHEET.due("no such RULE", x.unlike(0, no, NONE), NONE);
        }
        ContentRules three = SHEET.with("a=b,c;d=b,e;f=b?");
        SHEET.dueText("of these two", Sheet.unlike(three, 0, 1), "bc");
        SHEET.dueText("of these two", Sheet.unlike(three, 2, 1), "");
        SHEET.dueText("of these two", Sheet.unlike(three, 2, 0), "");
        SHEET.dueText("of these two", Sheet.unlike(three, 1, 0), "bc");
        SHEET.dueText("of these two", Sheet.unlike(three, 1, 1), "none");
        ContentRules y = SHEET.with("a=b?;c=b");
        SHEET.due("the empty WORD has no letters", y.unlike(0, 1, NONE), 0);
        SHEET.due("the empty WORD has no letters", y.unlike(0, 1, 0), NONE);
        SHEET.due("told anew", y.recount(0, 0, 1, 1), 1);
        SHEET.due("alike by now", y.unlike(0, 1, NONE), NONE);
        SHEET.due("no RULES", new ContentRules().unlike(0, 0, NONE), NONE);
    }

    // ---- promises 25 and 26 ----

    private static void recountNumbers() {
        for (int from = -1; from <= 13; from++) {
            for (int to = -2; to <= 13; to++) {
                ContentRules x = SHEET.with("a=(b{2,3},c)?");
                boolean isFrom = from >= 0 && from <= 12;
                boolean isTo = to == NONE || to >= 1 && to >= from && to <= 12;
                int want = !isFrom || !isTo ? -2 : from == 2 && to == 3 ? -3 : 1;
                SHEET.due("recount from " + from + " to " + to, x.recount(0, 0, from, to), want);
                SHEET.due("from then", x.counted(0, 0, 0), want == 1 ? from : 2);
                SHEET.due("to then", x.counted(0, 0, 1), want == 1 ? to : 3);
                SHEET.due("the other COUNT's from", x.counted(0, 1, 0), 0);
                SHEET.due("the other COUNT's to", x.counted(0, 1, 1), 1);
            }
        }
        ContentRules x = SHEET.with("a=b?;c=d");
        for (int no : new int[] {MIN, -2, MAX}) {
            SHEET.due("no such numbers", x.recount(0, 0, no, 1), -2);
            SHEET.due("no such numbers", x.recount(0, 0, 0, no), -2);
            SHEET.due("no such numbers", x.recount(0, 0, no, NONE), -2);
        }
        for (int no : new int[] {MIN, -2, -1, 2, 8, MAX}) {
            SHEET.due("no such RULE", x.recount(no, 0, 0, NONE), NONE);
            SHEET.due("no such COUNT", x.recount(0, no, 0, NONE), NONE);
            SHEET.due("no such COUNT, ahead of no such numbers", x.recount(0, no, 13, 0), NONE);
            SHEET.due("no such RULE, ahead of no such numbers", x.recount(no, 0, 13, 0), NONE);
        }
        SHEET.due("no such COUNT", x.recount(0, 1, 0, NONE), NONE);
        SHEET.due("no COUNTS", x.recount(1, 0, 0, NONE), NONE);
        SHEET.due("no RULES", new ContentRules().recount(0, 0, 0, 1), NONE);
        SHEET.due("it is so: ?", x.recount(0, 0, 0, 1), -3);
        SHEET.due("nearly so", x.recount(0, 0, 1, 1), 1);
        SHEET.due("it is so by now", x.recount(0, 0, 1, 1), -3);
        SHEET.due("without end", x.recount(0, 0, 1, NONE), 1);
        SHEET.due("it is so: without end", x.recount(0, 0, 1, NONE), -3);
    }

    private static void recountChanges() {
        ContentRules x = SHEET.with("a=(b{2}){2},c;d=(b|b)?", "a(b,b,b,b,c)");
        SHEET.due("SURE: 1", x.rule(0, 6), 1);
        SHEET.due("RIGHT", x.thing(0, 4), 1);
        SHEET.due("else 0", x.recount(0, 0, 1, 2), 0);
        SHEET.due("not SURE", x.rule(0, 6), 0);
        SHEET.due("neither RIGHT nor WRONG", x.thing(0, 4), 2);
        SHEET.due("shortest then", x.rule(0, 8), 3);
        SHEET.dueText("shortest then", Sheet.shortest(x, 0), "bbc");
        SHEET.due("1 if the RULE is SURE then", x.recount(0, 0, 3, 3), 1);
        SHEET.due("WRONG then", x.thing(0, 4), 0);
        SHEET.due("WRONG then", x.thing(0, 5), 4);
        SHEET.due("not SURE before or then", x.recount(1, 0, 0, NONE), 0);
        SHEET.due("the RULE's numbers alone", x.counted(0, 0, 0), 3);
        SHEET.due("read", Sheet.reads(x, 0, "bbbbbbc"), 1);
        SHEET.due("told anew", x.recount(0, 1, 1, 1), 1);
        SHEET.due("what was read stays", x.read(2), 7);
        SHEET.due("what was read stays", x.read(4), 1);
        SHEET.due("what was read stays", x.taken(6, 0), 1);
        SHEET.due("what was read stays", x.taken(3, 1), 1);
        SHEET.due("it can't be MENDED so", x.mended(0), NONE);
    }

    private static void reletterNumbers() {
        for (int letter = 0; letter < 26; letter++) {
            ContentRules x = SHEET.with("a=b,(d|0)");
            SHEET.due("reletter " + letter, x.reletter(0, 0, letter), letter == 1 ? -3 : 1);
            SHEET.due("the letter then", x.occurrence(0, 0, 0), letter);
            SHEET.due("the other letter", x.occurrence(0, 1, 0), 3);
            SHEET.due("letters then", x.rule(0, 10), 1 << letter | 8);
            SHEET.due("the RULE's own letter", x.rule(0, 0), 0);
        }
        ContentRules x = SHEET.with("a=b,c;d=0");
        for (int no : new int[] {MIN, -2, -1, 26, 97, MAX}) {
            SHEET.due("no such letter", x.reletter(0, 0, no), -2);
        }
        for (int no : new int[] {MIN, -2, -1, 2, 16, MAX}) {
            SHEET.due("no such RULE", x.reletter(no, 0, 3), NONE);
            SHEET.due("no such OCCURRENCE", x.reletter(0, no, 3), NONE);
            SHEET.due("no such OCCURRENCE, ahead of no such letter", x.reletter(0, no, 26), NONE);
            SHEET.due("no such RULE, ahead of no such letter", x.reletter(no, 0, 26), NONE);
        }
        SHEET.due("no OCCURRENCES", x.reletter(1, 0, 3), NONE);
        SHEET.due("no RULES", new ContentRules().reletter(0, 0, 0), NONE);
        SHEET.due("all is as it was", x.occurrence(0, 0, 0), 1);
        SHEET.due("the last OCCURRENCE", x.reletter(0, 1, 25), 1);
        SHEET.due("it is so", x.reletter(0, 1, 25), -3);
    }

    private static void reletterChanges() {
        ContentRules x = SHEET.with("a=b?,c;d=e|e", "a(b)");
        SHEET.due("WRONG at the end", x.thing(0, 5), 1);
        SHEET.due("else 0", x.reletter(0, 1, 1), 0);
        SHEET.due("not SURE", x.rule(0, 6), 0);
        SHEET.due("neither RIGHT nor WRONG", x.thing(0, 4), 2);
        SHEET.due("1 if the RULE is SURE then", x.reletter(0, 0, 2), 1);
        SHEET.due("RIGHT then", x.thing(0, 4), 1);
        SHEET.due("not SURE then", x.reletter(0, 0, 1), 0);
        SHEET.due("SURE then", x.reletter(1, 0, 5), 1);
        SHEET.due("its numbers of WORDS then", x.words(1, 1), 2);
        SHEET.due("read", Sheet.reads(x, 1, "f"), 1);
        SHEET.due("told anew", x.reletter(1, 0, 6), 1);
        SHEET.due("what was read stays", x.read(2), 1);
        SHEET.due("what was read stays", x.taken(0, 0), 0);
        SHEET.dueRow("MENDED by the RULE as it is now", Sheet.mended(x), 3, 0, 4);
    }

    public static void main(String[] args) {
        soManyTimes();
        inAnyOrder();
        ruleArguments();
        whatARuleHas();
        emptyWords();
        lengthsOfWords();
        conflicts();
        occurrenceArguments();
        firstLastNext();
        aroundOccurrences();
        counts();
        anys();
        witnesses();
        witnessArguments();
        shortestWords();
        numbersOfWords();
        unlikeRules();
        recountNumbers();
        recountChanges();
        reletterNumbers();
        reletterChanges();
        SHEET.close();
    }
}
