/** THINGS at their bounds and one step beyond: Terms 3, promises 1, 5, 6, 22 to 24 and 27. */
public final class ThingEdgesTest {
    private static final int NONE = Sheet.NONE;
    private static final int NO_SUCH = Sheet.NO_SUCH;
    private static final int MIN = Integer.MIN_VALUE;
    private static final int MAX = Integer.MAX_VALUE;
    private static final Sheet SHEET = new Sheet();

    private static int[] thing(ContentRules x, int thing) {
        int[] got = new int[8];
        for (int what = 0; what < got.length; what++) {
            got[what] = x.thing(thing, what);
        }
        return got;
    }

    private static int[] counts(ContentRules x) {
        int[] got = new int[8];
        for (int what = 0; what < got.length; what++) {
            got[what] = x.count(what);
        }
        return got;
    }

    // ---- promises 1, 5 and 6 ----

    private static void newObject() {
        SHEET.due("the constant NONE", ContentRules.NONE, -1);
        SHEET.due("the constant HIDDEN", ContentRules.HIDDEN, -1000000);
        ContentRules x = new ContentRules();
        SHEET.dueRow("no RULES, no DOCUMENT", counts(x), 0, 0, 0, 0, 0, 0, NONE, 0);
        SHEET.due("no RULES", SHEET.throwsFor(x, 0, 0), true);
        SHEET.due("no DOCUMENT", x.thing(0, 0), NO_SUCH);
        SHEET.due("no DOCUMENT", x.wrong(NONE), NONE);
        SHEET.due("no DOCUMENT", x.wrong(0), NONE);
        SHEET.due("no DOCUMENT", x.message(0, NONE), NONE);
        SHEET.due("another object's RULES", SHEET.with("a=b").count(1), 1);
        SHEET.due("are its alone", x.count(1), 0);
    }

    private static void rulesAndDocuments() {
        ContentRules x = new ContentRules();
        SHEET.due("an empty TAPE is no RULES", x.rules(), NONE);
        SHEET.due("an empty TAPE is no DOCUMENT", x.document(), NONE);
        SHEET.due("a DOCUMENT, RULES or not", Sheet.document(x, "a(b)"), 2);
        SHEET.due("the TAPE (empty then)", x.count(0), 0);
        SHEET.due("an empty TAPE is no DOCUMENT", x.document(), NONE);
        SHEET.due("the DOCUMENT stays", x.count(2), 2);
        SHEET.due("without a RULE: it holds nothing", x.thing(0, 4), 0);
        Sheet.tape(x, "a=b");
        SHEET.due("RULES, a DOCUMENT or not", x.rules(), 1);
        SHEET.due("the TAPE (empty then)", x.count(0), 0);
        SHEET.due("the DOCUMENT stays", x.count(2), 2);
        SHEET.due("it is held to these RULES", x.thing(0, 4), 1);
        Sheet.tape(x, "a=c;b=0");
        SHEET.due("RULES anew", x.rules(), 2);
        SHEET.due("it is held to these RULES", x.thing(0, 4), 0);
        SHEET.due("the first RULES are over", x.rule(0, 10), 4);
        Sheet.tape(x, "c=0");
        SHEET.due("RULES anew", x.rules(), 1);
        SHEET.due("no second RULE now", SHEET.throwsFor(x, 1, 0), true);
        SHEET.due("a shorter DOCUMENT", Sheet.document(x, "c"), 1);
        SHEET.due("no second THING now", x.thing(1, 0), NO_SUCH);
        SHEET.due("it is RIGHT", x.thing(0, 4), 1);
    }

    // ---- Terms 3, promise 22 ----

    private static void thingArguments() {
        ContentRules x = SHEET.with("a=b", "a(b,c)");
        ContentRules none = SHEET.with("a=b");
        for (int what = 0; what <= 7; what++) {
            SHEET.due("a THING's what", x.thing(2, what) == NO_SUCH, false);
            SHEET.due("no such THING", x.thing(3, what), NO_SUCH);
            SHEET.due("no such THING", x.thing(-1, what), NO_SUCH);
            SHEET.due("no DOCUMENT", none.thing(0, what), NO_SUCH);
        }
        for (int no : new int[] {MIN, -2, -1, 8, 60, MAX}) {
            SHEET.due("no such what", x.thing(0, no), NO_SUCH);
            SHEET.due("no such THING", x.thing(no, 0), NO_SUCH);
        }
    }

    private static void asTheyStand() {
        ContentRules x = SHEET.with("z=0", "a(b(c,z),d,e(f))");
        String letters = "abczdef";
        int[] holds = {3, 2, 0, 0, 0, 1, 0};
        int[] in = {NONE, 0, 1, 1, 0, 0, 5};
        int[] around = {0, 1, 2, 2, 1, 1, 2};
        for (int i = 0; i < letters.length(); i++) {
            SHEET.due("its letter", x.thing(i, 0), letters.charAt(i) - 'a');
            SHEET.due("how many it holds", x.thing(i, 1), holds[i]);
            SHEET.due("the one in which it is (NONE)", x.thing(i, 2), in[i]);
            SHEET.due("how many are around it", x.thing(i, 3), around[i]);
        }
        ContentRules deep = SHEET.with("z=0", "a(b(c(d(e(f(g(h)))))))");
        SHEET.due("seven around it", deep.thing(7, 3), 7);
        SHEET.due("in the seventh", deep.thing(7, 2), 6);
        ContentRules wide = SHEET.with("z=0", "a(" + Sheet.repeat("b", ",", 24) + ")");
        SHEET.due("it holds 24", wide.thing(0, 1), 24);
        SHEET.due("the last of 24 is in it", wide.thing(24, 2), 0);
        ContentRules most = SHEET.with("z=0", "a(" + Sheet.repeat("b(" + Sheet.repeat("c", ",", 24) + ")", ",", 2)
            + ",b(" + Sheet.repeat("c", ",", 7) + ",z))");
        SHEET.due("the last of 60", most.thing(59, 0), 25);
        SHEET.due("the last of 60 is in the third b", most.thing(59, 2), 51);
        SHEET.due("no 61st", most.thing(60, 0), NO_SUCH);
        SHEET.due("a and the three b in it are WRONG", most.wrong(NONE), 4);
    }

    /** Whether the first THING is RIGHT, its place, what COULD COME there, whether the END could. */
    private static void first(String rules, String document, int right, int place, String could, int end) {
        ContentRules x = SHEET.with(rules, document);
        int[] got = thing(x, 0);
        String about = document + " by " + rules;
        SHEET.due("RIGHT, " + about, got[4], right);
        SHEET.due("the place at which it is WRONG, " + about, got[5], place);
        SHEET.dueText("letters that COULD COME there, " + about, Sheet.letters(got[6]), could);
        SHEET.due("whether the END could there, " + about, got[7], end);
    }

    private static void rightAndWrong() {
        first("a=b,c?", "a(b)", 1, NONE, "", 0);
        first("a=b,c?", "a(b,c)", 1, NONE, "", 0);
        first("a=b,c?", "a", 0, 0, "b", 0);
        first("a=b,c?", "a(c)", 0, 0, "b", 0);
        first("a=b,c?", "a(b,b)", 0, 1, "c", 1);
        first("a=b,c?", "a(b,c,b)", 0, 2, "", 1);
        first("a=b,c", "a(b)", 0, 1, "c", 0);
        first("a=0", "a", 1, NONE, "", 0);
        first("a=0", "a(a)", 0, 0, "", 1);
        first("a=(y|b)+", "a(b,y,a)", 0, 2, "by", 1);
        first("b=c", "a", 1, NONE, "", 0);
        first("b=c", "a(b)", 0, 0, "", 1);
        first("b=c", "a(b(c),c)", 0, 0, "", 1);
        first("a=b?,b", "a", 2, NONE, "", 0);
        first("a=b?,b", "a(c)", 2, NONE, "", 0);
        first("a=(b*)*", "a(c)", 2, NONE, "", 0);
        // What its THINGS hold doesn't matter to it.
        first("a=b", "a(b(c,d))", 1, NONE, "", 0);
        String many = "a(" + Sheet.repeat("b", ",", 24) + ")";
        first("a=b{12},b{12}", many, 1, NONE, "", 0);
        first("a=b{12},b{12},c", many, 0, 24, "c", 0);
        first("a=b{12},b{11},c", many, 0, 23, "c", 0);
        first("a=b{12},b{11}", many, 0, 23, "", 1);
        first("a=" + "a,b,c,d,e,f,g,h,i,j,k,l,m,n,o,p".replace(',', '|'), "a(z)", 0, 0, "abcdefghijklmnop", 0);
    }

    private static void eachByItsOwnRule() {
        ContentRules x = SHEET.with("a=b,c;c=d;d=e?,e", "a(b,c(d(e)))");
        SHEET.dueRow("RIGHT", thing(x, 0), 0, 2, NONE, 0, 1, NONE, 0, 0);
        SHEET.dueRow("without a RULE: it holds nothing", thing(x, 1), 1, 0, 0, 1, 1, NONE, 0, 0);
        SHEET.dueRow("RIGHT", thing(x, 2), 2, 1, 0, 1, 1, NONE, 0, 0);
        SHEET.dueRow("its RULE isn't SURE", thing(x, 3), 3, 1, 2, 2, 2, NONE, 0, 0);
        SHEET.due("none is WRONG", x.wrong(NONE), 0);
        SHEET.due("none is WRONG", x.wrong(0), NONE);
    }

    // ---- promise 23 ----

    private static void wrongOnes() {
        ContentRules x = SHEET.with("a=b;c=0;d=e?,e", "a(c(b),d(b),b,a(b),a)");
        SHEET.due("how many (i NONE)", x.wrong(NONE), 3);
        SHEET.due("the first as they stand", x.wrong(0), 0);
        SHEET.due("the second", x.wrong(1), 1);
        SHEET.due("the last", x.wrong(2), 8);
        SHEET.due("it isn't RIGHT", x.thing(8, 4), 0);
        for (int no : new int[] {MIN, -2, 3, 4, 60, MAX}) {
            SHEET.due("no such one", x.wrong(no), NONE);
        }
        ContentRules all = SHEET.with("a=b", "a(" + Sheet.repeat("a(" + Sheet.repeat("a", ",", 24) + ")", ",", 2)
            + "," + Sheet.repeat("a", ",", 9) + ")");
        SHEET.due("all 60 are WRONG", all.wrong(NONE), 60);
        SHEET.due("the last one", all.wrong(59), 59);
        SHEET.due("no such one", all.wrong(60), NONE);
        SHEET.due("no DOCUMENT", SHEET.with("a=b").wrong(NONE), NONE);
        SHEET.due("one that is RIGHT", SHEET.with("a=0", "a").wrong(NONE), 0);
        SHEET.due("one that is WRONG", SHEET.with("a=b", "a").wrong(NONE), 1);
    }

    // ---- promise 24 ----

    private static void message(String sentence, String rules, String document, int thing, String want) {
        ContentRules x = SHEET.with(rules, document);
        SHEET.dueText("MESSAGE, " + sentence, Sheet.message(x, thing), want);
        SHEET.due("how many, " + sentence, x.message(thing, NONE), want.length());
        SHEET.due("the last byte, " + sentence, x.message(thing, want.length() - 1), want.charAt(want.length() - 1));
        SHEET.due("no more, " + sentence, x.message(thing, want.length()), NONE);
        for (int no : new int[] {MIN, -2, 160, MAX}) {
            SHEET.due("no such byte, " + sentence, x.message(thing, no), NONE);
        }
    }

    private static void messages() {
        message("a THING alone", "a=b", "a", 0, "a: end at 0, b");
        message("the letter at that place", "a=b", "a(z)", 0, "a: z at 0, b");
        message("the END", "a=b", "a(b,b)", 0, "a: b at 1, end");
        message("or end", "a=b?", "a(c)", 0, "a: c at 0, b or end");
        message("letters rising", "a=(z|b|c)*,a", "a(d)", 0, "a: d at 0, a or b or c or z");
        message("letters rising, then end", "a=(z|b)*", "a(d)", 0, "a: d at 0, b or z or end");
        message("as many as it holds", "a=b,c", "a(b)", 0, "a: end at 1, c");
        message("without a RULE", "b=c", "a(z)", 0, "a: z at 0, end");
        message("from the first down to it", "c=0", "a(b,c(d))", 2, "a/c: d at 0, end");
        message("from the first down to it", "h=z", "a(b(c(d(e(f(g(h)))))))", 7, "a/b/c/d/e/f/g/h: end at 0, z");
        message("one digit", "a=b{9}", "a(" + Sheet.repeat("b", ",", 10) + ")", 0, "a: b at 9, end");
        message("two digits", "a=b{10}", "a(" + Sheet.repeat("b", ",", 11) + ")", 0, "a: b at 10, end");
        message("two digits", "a=b{12},b{7},c", "a(" + Sheet.repeat("b", ",", 20) + ")", 0, "a: b at 19, c");
        message("two digits", "a=b{12},b{8},c", "a(" + Sheet.repeat("b", ",", 20) + ")", 0, "a: end at 20, c");
        message("two digits", "a=b{12},b{12},c", "a(" + Sheet.repeat("b", ",", 24) + ")", 0, "a: end at 24, c");
        String all = "k|l|m|n|o|p|q|r|s|t|u|v|w|x|y|z";
        String told = all.replace("|", " or ");
        message("all letters", "a=" + all, "a", 0, "a: end at 0, " + told);
        message("all letters and end", "a=(" + all + ")*", "a(a)", 0,
            "a: a at 0, " + told + " or end");
        String deep = "b(b(b(b(b(b(a(" + Sheet.repeat("z", ",", 23) + ",a)))))))";
        message("the longest", "a=(" + all + ")*", deep, 6, "b/b/b/b/b/b/a: a at 23, " + told + " or end");
    }

    private static void messageArguments() {
        ContentRules x = SHEET.with("a=b;c=d?,d", "a(b,c(d))");
        SHEET.due("a WRONG one", x.message(0, NONE), 14);
        SHEET.due("its first byte", x.message(0, 0), 'a');
        SHEET.due("it isn't WRONG: RIGHT", x.message(1, NONE), NONE);
        SHEET.due("it isn't WRONG: RIGHT", x.message(1, 0), NONE);
        SHEET.due("it isn't WRONG: neither", x.message(2, NONE), NONE);
        SHEET.due("it isn't WRONG: neither", x.message(2, 0), NONE);
        for (int no : new int[] {MIN, -2, -1, 4, 60, MAX}) {
            SHEET.due("no such THING", x.message(no, NONE), NONE);
            SHEET.due("no such THING", x.message(no, 0), NONE);
        }
        SHEET.due("no DOCUMENT", SHEET.with("a=b").message(0, NONE), NONE);
        SHEET.due("told anew: RIGHT", x.reletter(0, 0, 1), -3);
        SHEET.due("a DOCUMENT anew", Sheet.document(x, "a(b)"), 2);
        SHEET.due("it isn't WRONG now", x.message(0, NONE), NONE);
        SHEET.due("told anew", x.reletter(0, 0, 25), 1);
        SHEET.dueText("it is WRONG now", Sheet.message(x, 0), "a: b at 0, z");
    }

    // ---- promise 27 ----

    private static void countsOfAll() {
        ContentRules x = SHEET.with("a=b", "a(b)");
        for (int no : new int[] {MIN, -2, -1, 8, 9, MAX}) {
            SHEET.due("NONE for others", x.count(no), NONE);
            SHEET.due("NONE for others", new ContentRules().count(no), NONE);
        }
        SHEET.dueRow("RULES and a DOCUMENT", counts(x), 0, 1, 2, 0, 1, 1, 0, 2);
        SHEET.dueRow("RULES alone", counts(SHEET.with("a=b;c=d")), 0, 2, 0, 0, 3, 3, NONE, 0);
        ContentRules y = new ContentRules();
        SHEET.due("a DOCUMENT alone", Sheet.document(y, "a(b(c),d)"), 4);
        Sheet.tape(y, "abc");
        SHEET.dueRow("a DOCUMENT alone", counts(y), 3, 0, 4, 2, 0, 0, 0, 3);
        ContentRules most = SHEET.with("a=0;b=0;c=0;d=0;e=0;f=0;g=0;h=0");
        SHEET.due("8 RULES that are CLEAR (bits)", most.count(4), 255);
        SHEET.due("8 RULES that are SURE (bits)", most.count(5), 255);
        ContentRules some = SHEET.with("a=b|b;c=(b*)*;d=0;e=b?,b;f=b");
        SHEET.due("RULES that are CLEAR", some.count(4), 22);
        SHEET.due("RULES that are SURE", some.count(5), 20);
        SHEET.due("told anew", some.reletter(0, 0, 0), 1);
        SHEET.due("RULES that are CLEAR", some.count(4), 23);
        SHEET.due("RULES that are SURE", some.count(5), 21);
    }

    private static void fullestAndDeepest() {
        String[] documents = {"a", "a(b)", "a(b(c))", "a(b(c,d))", "a(b,c(d,e))", "a(b(c,d),e(f,g,h))", "a(b(c,d),e(f,g))",
            "a(b(c(d(e(f(g)))))) ", "a(b(c(d(e(f(g(h)))))))", "a(b,c(d(e)),f)"};
        int[] fullest = {0, 0, 0, 1, 0, 4, 0, 0, 0, 0};
        int[] deepest = {1, 2, 3, 3, 3, 3, 3, 7, 8, 4};
        for (int i = 0; i < documents.length; i++) {
            ContentRules x = SHEET.with("z=0", documents[i]);
            SHEET.due("the THING of most that it holds (of several the lowest), " + documents[i], x.count(6), fullest[i]);
            SHEET.due("the most THINGS within one another, " + documents[i], x.count(7), deepest[i]);
        }
    }

    public static void main(String[] args) {
        newObject();
        rulesAndDocuments();
        thingArguments();
        asTheyStand();
        rightAndWrong();
        eachByItsOwnRule();
        wrongOnes();
        messages();
        messageArguments();
        countsOfAll();
        fullestAndDeepest();
        SHEET.close();
    }
}
