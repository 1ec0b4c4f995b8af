import java.util.NoSuchElementException;

/** One method a promise, with ordinary inputs, the edges that the document names, and wrong inputs. */
public final class PromiseTest {
    private static final int NONE = ContentRules.NONE;
    private static final int HIDDEN = ContentRules.HIDDEN;
    private static final int NO_SUCH = NONE - 1;

    private static int wrong = 0;
    private static int asked = 0;

    private static void due(String call, long got, long want) {
        asked++;
        if (got != want) {
            wrong++;
            System.out.println(call + " answered " + got + ", due is " + want);
        }
    }

    private static void due(String call, boolean got, boolean want) {
        due(call, got ? 1 : 0, want ? 1 : 0);
    }

    private static void feed(ContentRules x, String text) {
        x.end(0);
        for (int at = 0; at < text.length(); at += 20) {
            int[] five = new int[5];
            for (int k = 0; k < 20 && at + k < text.length(); k++) {
                five[k / 4] |= text.charAt(at + k) << 24 - 8 * (k % 4);
            }
            x.feed(five[0], five[1], five[2], five[3], five[4]);
        }
    }

    private static ContentRules rules(String text) {
        ContentRules x = new ContentRules();
        feed(x, text);
        due("RULES " + text, x.rules() > 0, true);
        return x;
    }

    private static int reads(ContentRules x, int rule, String word) {
        feed(x, word);
        return x.reads(rule);
    }

    private static int document(ContentRules x, String text) {
        feed(x, text);
        return x.document();
    }

    private static int fault(String text, int what) {
        ContentRules x = new ContentRules();
        feed(x, text);
        return x.fault(what);
    }

    private static String message(ContentRules x, int thing) {
        StringBuilder text = new StringBuilder();
        for (int k = 0; k < x.message(thing, NONE); k++) {
            text.append((char) x.message(thing, k));
        }
        due("a message's end", x.message(thing, text.length()), NONE);
        return text.toString();
    }

    private static void dueText(String call, String got, String want) {
        asked++;
        if (!got.equals(want)) {
            wrong++;
            System.out.println(call + " answered " + got + ", due is " + want);
        }
    }

    private static boolean throwsFor(ContentRules x, int rule, int what) {
        try {
            x.rule(rule, what);
            return false;
        } catch (NoSuchElementException e) {
            return true;
        }
    }

    private static void newObject() {
        ContentRules x = new ContentRules();
        for (int what = 0; what < 8; what++) {
            due("new: count " + what, x.count(what), what == 6 ? NONE : 0);
        }
        due("new: rule", throwsFor(x, 0, 0), true);
        due("new: occurrence", x.occurrence(0, 0, 0), NO_SUCH);
        due("new: counted", x.counted(0, 0, 0), NO_SUCH);
        due("new: any", x.any(0, 0, 0), NONE);
        due("new: witness", x.witness(0, false, 0), HIDDEN);
        due("new: shown", x.shown(0, true, 0), NONE);
        due("new: shortest", x.shortest(0, 0), NONE);
        due("new: words", x.words(0, 0), NONE);
        due("new: reads", x.reads(0), NONE);
        due("new: read", x.read(0), NONE);
        due("new: taken", x.taken(0, 0), HIDDEN);
        due("new: times", x.times(0), HIDDEN);
        due("new: parts", x.parts(0), HIDDEN);
        due("new: mended", x.mended(0), NONE);
        due("new: unlike", x.unlike(0, 0, NONE), NONE);
        due("new: thing", x.thing(0, 0), NO_SUCH);
        due("new: wrong", x.wrong(NONE), NONE);
        due("new: message", x.message(0, NONE), NONE);
        due("new: recount", x.recount(0, 0, 0, 1), NONE);
        due("new: reletter", x.reletter(0, 0, 0), NONE);
        due("new: fault", x.fault(0), 0);
        due("new: rules", x.rules(), NONE);
        due("new: document", x.document(), NONE);
    }

    private static void feedAndEnd() {
        ContentRules x = new ContentRules();
        due("feed nothing", x.feed(0, 0, 0, 0, 0), 0);
        due("feed highest first", x.feed(0x613d6200, 0, 0x00000063, 0, 0), 4);
        due("its fault", x.fault(0), 3);
        due("end too far", x.end(5), false);
        due("end below", x.end(-1), false);
        due("all stays", x.count(0), 4);
        due("end", x.end(3), true);
        due("rule left", x.fault(0), NONE);
        due("end at all", x.end(3), true);
        due("end 0", x.end(0), true);
        for (int n = 20; n <= 400; n += 20) {
            due("feed to " + n, x.feed(0x61616161, 0x61616161, 0x61616161, 0x61616161, 0x61616161), n);
        }
        due("feed one too much", x.feed(0, 0, 0, 0, 1), NONE);
        due("feed nothing to it", x.feed(0, 0, 0, 0, 0), 400);
        due("end 381", x.end(381), true);
        due("feed twenty", x.feed(0x61616161, 0x61616161, 0x61616161, 0x61616161, 0x61616161), NONE);
        due("refused whole", x.count(0), 381);
        due("feed nineteen", x.feed(0x61616161, 0x61616161, 0x61616161, 0x61616161, 0x61616100), 400);
        x.end(0);
        due("high bytes", x.feed(-1, 0, 0, 0, 0x80000000), 5);
        due("no sign", x.fault(0), 0);
    }

    private static void faultsOfRules() {
        due("another what", fault("a=b", 2), -2);
        due("another what", fault("a=b", -1), -2);
        due("none", fault(" a = b ", 0), NONE);
        due("blanks alone", fault("  ", 0), 2);
        due("no sign", fault("a=B", 0), 2);
        due("= is due", fault("ab", 0), 1);
        due("0 is an atom", fault("a=00", 0), 3);
        due("digits are none", fault("a=1", 0), 2);
        due("a row's end", fault("a=b,", 0), 4);
        due("a blank row's end", fault("a=b,  ", 0), 6);
        due("empty brackets", fault("a=()", 0), 3);
        due("one part", fault("a=[b]", 0), 4);
        due("two parts", fault("a=[b&c]", 0), NONE);
        due("four parts", fault("a=[b&c&d&e]", 0), NONE);
        due("five parts", fault("a=[b&c&d&e&f]", 0), 10);
        due("& in brackets", fault("a=(b&c)", 0), 4);
        due("wrong bracket", fault("a=(b]", 0), 4);
        due("wrong bracket", fault("a=[b&c)", 0), 6);
        due("same letter", fault("a=b;b=c;a=c", 0), 8);
        due("8 rules", fault("a=0;b=0;c=0;d=0;e=0;f=0;g=0;h=0", 0), NONE);
        due("9 rules", fault("a=0;b=0;c=0;d=0;e=0;f=0;g=0;h=0;i=0", 0), 31);
        due("16 letters", fault("a=b,b,b,b,b,b,b,b,b,b,b,b,b,b,b,b,0", 0), NONE);
        due("17 letters", fault("a=b,b,b,b,b,b,b,b,b,b,b,b,b,b,b,b,(0|b)", 0), 37);
        due("16 letters each", fault("a=b,b,b,b,b,b,b,b,b,b,b,b,b,b,b,b;b=b", 0), NONE);
        due("8 counts", fault("a=b?,b?,b?,b?,b?,b?,b?,b?", 0), NONE);
        due("9 counts", fault("a=b?,b?,b?,b?,b?,b?,b?,b?,b*", 0), 27);
        due("8 counts each", fault("a=b?,b?,b?,b?,b?,b?,b?,b?;b=b?", 0), NONE);
        due("two around", fault("a=((b?),c)?", 0), NONE);
        due("three around", fault("a=((b?,c)?,d){2}", 0), 13);
        due("three around 0", fault("a=((0?,c)?,d)+", 0), 13);
        due("two side by side", fault("a=(b?,c?)*,d", 0), NONE);
        due("two counts", fault("a=b?*", 0), 4);
        due("two counts", fault("a=b{1}?", 0), 6);
        due("8 brackets", fault("a=((((((((b))))))))", 0), NONE);
        due("9 brackets", fault("a=(((((((((b)))))))))", 0), 10);
        due("9 brackets and [", fault("a=((((((([(b)&c])))))))", 0), 10);
        due("8 side by side", fault("a=(b),(b),(b),(b),(b),(b),(b),(b),(b)", 0), NONE);
        due("4 anys", fault("a=[b&c],[b&c],[b&c],[b&c]", 0), NONE);
        due("5 anys", fault("a=[b&c],[b&c],[b&c],[b&c],[b&c]", 0), 26);
        due("too early", fault("a=[b&(c", 0), 7);
    }

    private static void faultsOfNumbers() {
        due("from 0", fault("a=b{0,}", 0), NONE);
        due("{0}", fault("a=b{0}", 0), 5);
        due("{00}", fault("a=b{00}", 0), 6);
        due("{00,1}", fault("a=b{00,1}", 0), NONE);
        due("{01}", fault("a=b{01}", 0), NONE);
        due("{12}", fault("a=b{12}", 0), NONE);
        due("{13}", fault("a=b{13}", 0), 5);
        due("{20}", fault("a=b{20}", 0), 5);
        due("{012}", fault("a=b{012}", 0), 6);
        due("{1 2}", fault("a=b{1 2}", 0), 6);
        due("{ 1 , 2 }", fault("a=b { 1 , 2 }", 0), NONE);
        due("{,2}", fault("a=b{,2}", 0), 4);
        due("{}", fault("a=b{}", 0), 4);
        due("{3,2}", fault("a=b{3,2}", 0), 6);
        due("{3,1}", fault("a=b{3,1}", 0), 7);
        due("{3,12}", fault("a=b{3,12}", 0), NONE);
        due("{3,0}", fault("a=b{3,0}", 0), 7);
        due("{3,03}", fault("a=b{3,03}", 0), NONE);
        due("{12,0", fault("a=b{12,0", 0), 7);
        due("{10,09", fault("a=b{10,09}", 0), 7);
        due("{0,0}", fault("a=b{0,0}", 0), 7);
        due("{3,13}", fault("a=b{3,13}", 0), 7);
        // Behind 10 nothing can come here: the digit is at fault, not the } behind it.
        due("{12,10}", fault("a=b{12,10}", 0), 8);
        due("{0,00}", fault("a=b{0,00}", 0), 7);
        // The blank ends the N, that is too little then: no TEXT goes on with it.
        due("{3,1 }", fault("a=b{3,1 }", 0), 7);
        due("{3,1 ", fault("a=b{3,1 ", 0), 7);
        due("{3, 1 2}", fault("a=b{3, 1 2}", 0), 8);
        due("{3,1", fault("a=b{3,1", 0), 7);
        due("{3,1;", fault("a=b{3,1;", 0), 7);
        due("{0,0  }", fault("a=b{0,0  }", 0), 7);
        due("{3,3 }", fault("a=b{3,3 }", 0), NONE);
        due("{3,12 }", fault("a=b{3,12 }", 0), NONE);
        // Behind a first N of 0 a comma can still come, behind blanks too.
        due("{0 }", fault("a=b{0 }", 0), 6);
        due("{0 ,1 }", fault("a=b{0 ,1 }", 0), NONE);
        due("{2", fault("a=b{2", 0), 5);
        due("{2,", fault("a=b{2,", 0), 6);
        due("{2,3", fault("a=b{2,3", 0), 7);
        due("{2;", fault("a=b{2;", 0), 5);
    }

    private static void faultsOfDocuments() {
        due("one", fault(" a ", 1), NONE);
        due("nothing", fault("", 1), 0);
        due("two", fault("a,b", 1), 1);
        due("none held", fault("a()", 1), 2);
        due("held", fault("a(b(c),d)", 1), NONE);
        due("held twice", fault("a(b)(c)", 1), 4);
        due("too early", fault("a(b,", 1), 4);
        due("too early", fault("a(b(c)", 1), 6);
        due("behind the end", fault("a(b))", 1), 4);
        due("no sign", fault("a(0)", 1), 2);
        due("8 deep", fault("a(a(a(a(a(a(a(a)))))))", 1), NONE);
        due("9 deep", fault("a(a(a(a(a(a(a(a(a))))))))", 1), 15);
        StringBuilder wide = new StringBuilder("a(b");
        for (int i = 1; i < 24; i++) {
            wide.append(",b");
        }
        due("24 held", fault(wide + ")", 1), NONE);
        due("25 held", fault(wide + ",b)", 1), wide.length() + 1);
        StringBuilder many = new StringBuilder("a(");
        for (int i = 0; i < 2; i++) {
            many.append(wide).append("),");
        }
        // 1 + 2 * 25 THINGS stand here.
        due("60 things", fault(many + "a(b,b,b,b,b,b,b,b))", 1), NONE);
        due("61 things", fault(many + "a(b,b,b,b,b,b,b,b,b))", 1), many.length() + 18);
    }

    private static void rulesAndDocument() {
        ContentRules x = rules("a=b;c=d");
        due("RULES", x.count(1), 2);
        due("THINGS", document(x, "a(b)"), 2);
        due("read", reads(x, 0, "b"), 1);
        feed(x, "a=");
        due("a FAULT", x.rules(), NONE);
        due("the TAPE stays", x.count(0), 2);
        due("the RULES stay", x.count(1), 2);
        due("what was read stays", x.read(0), 0);
        due("no document", x.document(), NONE);
        due("the DOCUMENT stays", x.count(2), 2);
        feed(x, "x=y");
        due("a document's fault", x.document(), NONE);
        due("rules anew", x.rules(), 1);
        due("the TAPE is empty", x.count(0), 0);
        due("nothing was read", x.read(0), NONE);
        due("nothing was taken", x.taken(0, 0), HIDDEN);
        due("no mending", x.mended(0), NONE);
        due("THINGS stay", x.count(2), 2);
        due("held to new RULES", x.thing(0, 4), 0);
        due("end alone could come", x.thing(0, 7), 1);
        ContentRules y = new ContentRules();
        due("without RULES", document(y, "a(b)"), 2);
        due("it is WRONG", y.wrong(0), 0);
        feed(y, "a=b");
        y.rules();
        due("RIGHT by now", y.wrong(NONE), 0);
    }

    private static void aboutRules() {
        ContentRules x = rules("q=(a{12}){12},[b&c+]?;r=0{3};s=(0|a)*,b{2,3}");
        due("letter", x.rule(0, 0), 16);
        due("occurrences", x.rule(0, 1), 3);
        due("counts", x.rule(0, 2), 4);
        due("anys", x.rule(0, 3), 1);
        due("empty", x.rule(0, 4), 0);
        due("clear", x.rule(0, 5), 1);
        due("sure", x.rule(0, 6), 1);
        due("conflicts", x.rule(0, 7), 0);
        due("shortest", x.rule(0, 8), 144);
        due("longest", x.rule(0, 9), NONE);
        due("letters", x.rule(0, 10), 7);
        due("0 is empty", x.rule(1, 4), 1);
        due("0 is short", x.rule(1, 8), 0);
        due("0 is not long", x.rule(1, 9), 0);
        due("0 has no letters", x.rule(1, 10), 0);
        due("s is long", x.rule(2, 9), NONE);
        due("s is short", x.rule(2, 8), 2);
        due("no such what", throwsFor(x, 0, 11), true);
        due("no such what", throwsFor(x, 0, -1), true);
        due("no such rule", throwsFor(x, 3, 0), true);
        due("no such rule", throwsFor(x, -1, 0), true);
        ContentRules y = rules("a=0*;b=(0,0)+;c=(b?){3};d=(a,b,c,d,e,f,g,h,i,j,k,l,m,n,o,p){12}");
        due("0* ends", y.rule(0, 9), 0);
        due("(0,0)+ ends", y.rule(1, 9), 0);
        due("fewer TIMES do", y.rule(2, 4), 1);
        due("three at most", y.rule(2, 9), 3);
        due("all letters", y.rule(3, 10), 65535);
        due("192", y.rule(3, 8), 192);
        due("192", y.rule(3, 9), 192);
    }

    private static void aboutSigns() {
        ContentRules x = rules("a=(b,[c?&d*])+,e");
        due("outer", x.occurrence(0, 1, 4), 2);
        due("inner", x.occurrence(0, 1, 5), 0);
        due("one alone", x.occurrence(0, 0, 4), 2);
        due("one alone", x.occurrence(0, 0, 5), NONE);
        due("none", x.occurrence(0, 3, 4), NONE);
        due("anys", x.occurrence(0, 2, 6), 1);
        due("no anys", x.occurrence(0, 3, 6), 0);
        due("next of b", x.occurrence(0, 0, 3), 15);
        due("next of c", x.occurrence(0, 1, 3), 1 | 4 | 8);
        due("next of d", x.occurrence(0, 2, 3), 1 | 2 | 4 | 8);
        due("next of e", x.occurrence(0, 3, 3), 0);
        due("first", x.occurrence(0, 0, 1), 1);
        due("not first", x.occurrence(0, 3, 1), 0);
        due("last", x.occurrence(0, 3, 2), 1);
        due("not last", x.occurrence(0, 0, 2), 0);
        due("no what", x.occurrence(0, 0, 7), NO_SUCH);
        due("no what", x.occurrence(0, 0, -1), NO_SUCH);
        due("no occurrence", x.occurrence(0, -1, 0), NO_SUCH);
        due("no rule", x.occurrence(1, 0, 0), NO_SUCH);
        due("from", x.counted(0, 2, 0), 1);
        due("to", x.counted(0, 2, 1), NONE);
        due("around none", x.counted(0, 2, 2), NONE);
        due("around", x.counted(0, 1, 2), 2);
        due("in it", x.counted(0, 2, 3), 7);
        due("isn't empty", x.counted(0, 2, 4), 0);
        due("no what", x.counted(0, 2, 5), NO_SUCH);
        due("no count", x.counted(0, 3, 0), NO_SUCH);
        due("no count", x.counted(0, -1, 0), NO_SUCH);
        due("no rule", x.counted(-1, 0, 0), NO_SUCH);
        due("parts", x.any(0, 0, 0), 2);
        due("part 0", x.any(0, 0, 1), 2);
        due("part 1", x.any(0, 0, 2), 4);
        due("no part 2", x.any(0, 0, 3), NONE);
        due("no what", x.any(0, 0, -1), NONE);
        due("no any", x.any(0, -1, 0), NONE);
        ContentRules y = rules("a=(b?){2}|[0&b&[c&d]]");
        due("is empty", y.counted(0, 1, 4), 1);
        due("a part of nothing", y.any(0, 0, 1), 0);
        due("the inner is numbered behind", y.any(0, 1, 0), 2);
        due("in the outer", y.any(0, 0, 3), 12);
        due("both around", y.occurrence(0, 3, 6), 3);
    }

    private static void witnesses() {
        ContentRules x = rules("a=b?,b;c=(a{12},b){12},(c|c);d=[a?&b?]*;e=x;f=a{1,2},a");
        due("NONE ahead", x.witness(0, true, 0), NONE);
        due("letters ahead", x.witness(1, false, 5), 156);
        due("P", x.witness(1, false, 0), 1);
        due("lower", x.witness(1, false, 1), 2);
        due("by none", x.witness(1, false, 2), NONE);
        due("higher", x.witness(1, false, 3), 3);
        due("last ahead", x.shown(1, false, 155), 1);
        due("first ahead", x.shown(1, false, 0), 0);
        due("the one", x.shown(1, false, 156), 2);
        due("no more", x.shown(1, false, 157), NONE);
        due("below", x.shown(1, false, -1), NONE);
        due("the ANY: by none", x.witness(2, false, 2), NONE);
        due("the ANY: by its COUNT", x.witness(2, false, 4), 2);
        due("the ANY: the same", x.witness(2, false, 3), x.witness(2, false, 1));
        due("the ANY is CLEAR", x.rule(2, 5), 1);
        due("no unclear one", x.witness(2, true, 0), HIDDEN);
        due("no unclear one", x.shown(2, true, 0), NONE);
        due("SURE", x.witness(3, false, 0), HIDDEN);
        due("no what", x.witness(0, false, 6), HIDDEN);
        due("no what", x.witness(0, false, -1), HIDDEN);
        due("no rule", x.witness(5, false, 0), HIDDEN);
        due("no rule", x.shown(-1, false, 0), NONE);
        due("one more or on", x.witness(4, true, 2), 0);
        due("one more or on", x.witness(4, true, 4), NONE);
        due("one letter ahead", x.witness(4, true, 5), 1);
        due("its conflicts", x.rule(4, 7), 1);
        // The shortest letters to both WAYS take b (2) over a (1) in any order: ab.. ahead of ba..
        ContentRules y = rules("a=[b,a&a,b&c?],(x|x)");
        due("ordered", y.shown(0, false, 0), 0);
        due("ordered", y.shown(0, false, 1), 1);
        due("ordered", y.shown(0, false, 2), 1);
        due("ordered", y.shown(0, false, 3), 0);
        due("ordered", y.shown(0, false, 4), 23);
        due("ahead", y.witness(0, false, 5), 4);
        due("P", y.witness(0, false, 0), 1);
        // Three letters by a COUNT are fewer than four that stand ahead by letters.
        ContentRules z = rules("a=b,b,b,b,(c|c)|d{3},(c|c)");
        due("three ahead", z.witness(0, false, 5), 3);
        due("d", z.shown(0, false, 0), 3);
        // A lower WAY that asks for more TIMES, or for a PART over, stands behind more letters.
        ContentRules times = rules("x=[a?&(b,(c|c)?){2}],a");
        due("P", times.witness(0, false, 0), 1);
        due("lower", times.witness(0, false, 1), 2);
        due("one ahead", times.witness(0, false, 5), 1);
        ContentRules parts = rules("x=[a?&[d&b,(c|c)?]],a");
        due("P", parts.witness(0, false, 0), 2);
        due("lower", parts.witness(0, false, 1), 3);
        due("one ahead", parts.witness(0, false, 5), 1);
    }

    private static void mostConflicts() {
        StringBuilder row = new StringBuilder("(a|0)");
        for (int i = 1; i < 16; i++) {
            row.append(",(a|0)");
        }
        ContentRules x = rules("x=((" + row + "){2,3})*");
        // 16 FIRST ones; behind the i-th 15 - i in its row, and 16 by each COUNT.
        int conflicts = 120;
        for (int i = 0; i < 16; i++) {
            int n = 15 - i + 32;
            conflicts += n * (n - 1) / 2;
        }
        due("most conflicts", x.rule(0, 7), conflicts);
        due("all are NEXT", x.occurrence(0, 15, 3), 65535);
    }

    private static void shortestWords() {
        ContentRules x = rules("a=c|b|b,a;d=(c|d|b){3},[c&b&b,a];e=a?;f=((b|a){12},c){12}");
        due("the first by letters", x.shortest(0, 0), 1);
        due("its end", x.shortest(0, 1), NONE);
        int[] word = {1, 1, 1, 1, 0, 1, 2};
        due("in any order", x.rule(1, 8), word.length);
        for (int k = 0; k < word.length; k++) {
            due("in any order " + k, x.shortest(1, k), word[k]);
        }
        due("empty", x.shortest(2, 0), NONE);
        due("156", x.rule(3, 8), 156);
        due("the last", x.shortest(3, 155), 2);
        due("the last but one", x.shortest(3, 154), 0);
        due("no more", x.shortest(3, 156), NONE);
        due("back to another", x.shortest(1, 6), 2);
        due("below", x.shortest(1, -1), NONE);
        due("no rule", x.shortest(4, 0), NONE);
        due("of one that isn't SURE", rules("a=b|b").shortest(0, 0), 1);
    }

    private static void numbersOfWords() {
        ContentRules x = rules("a=(a|b|c|d|e|f|g|h|i|j|k|l|m|n|o|p)*;b=[a&b&c?&d?];c=a?,a;d=0");
        due("16 ^ 4", x.words(0, 4), 65536);
        due("the empty one", x.words(0, 0), 1);
        due("two", x.words(1, 2), 2);
        due("three", x.words(1, 3), 12);
        due("four", x.words(1, 4), 24);
        due("one", x.words(1, 1), 0);
        due("not SURE", x.words(2, 1), NONE);
        due("nothing", x.words(3, 0), 1);
        due("nothing more", x.words(3, 1), 0);
        due("five", x.words(0, 5), NONE);
        ContentRules y = rules("a=[a?&b?&c?&d?];b=[a?&b?]");
        due("four of four", y.words(0, 4), 24);
        due("two of two", y.words(1, 2), 2);
        due("no more of two", y.words(1, 4), 0);
        due("below", x.words(0, -1), NONE);
        due("no rule", x.words(4, 0), NONE);
    }

    private static void reading() {
        ContentRules x = rules("a=b*;c=(a?,b?,c){2,3};d=a?,a");
        due("24 letters", reads(x, 0, "b b b b b b b b b b b b b b b b b b b b b b b b "), 1);
        due("TIMES beyond 12", x.times(0), 24);
        due("a 25th", reads(x, 0, "bbbbbbbbbbbbbbbbbbbbbbbb b"), -2 - 25);
        due("the TAPE stays", x.count(0), 26);
        due("what was read stays", x.read(1), 24);
        due("another byte", reads(x, 0, "b b,"), -2 - 3);
        due("a big letter", reads(x, 0, "B"), -2);
        due("no rule", x.reads(3), NONE);
        due("no rule", x.reads(-1), NONE);
        due("not SURE, ahead of the byte", x.reads(2), NONE);
        due("a word", reads(x, 1, " cabc "), 1);
        due("the TAPE is empty", x.count(0), 0);
        due("its rule", x.read(0), 1);
        due("letters", x.read(1), 4);
        due("place", x.read(2), 4);
        due("could come", x.read(3), 7);
        due("end", x.read(4), 1);
        due("no what", x.read(-1), NONE);
        due("no what", x.read(5), NONE);
        due("taken first", x.taken(0, 0), 2);
        due("by none at first", x.taken(0, 1), NONE);
        due("a by the count", x.taken(1, 1), 2);
        due("b by none", x.taken(2, 1), NONE);
        due("no what", x.taken(0, 2), HIDDEN);
        due("no what", x.taken(0, -1), HIDDEN);
        due("none there", x.taken(4, 0), HIDDEN);
        due("none below", x.taken(-1, 0), HIDDEN);
        due("second TIME", x.times(2), 2);
        due("not around c", x.times(0), 0);
        due("no count", x.times(3), HIDDEN);
        due("no count", x.times(-1), HIDDEN);
        due("no any", x.parts(0), HIDDEN);
        due("wrong at 1", reads(x, 1, "bab"), 0);
        due("place", x.read(2), 1);
        due("could come", x.read(3), 4);
        due("end", x.read(4), 0);
        due("all begin one", reads(x, 1, "ab"), 0);
        due("place", x.read(2), 2);
        due("empty", reads(x, 1, ""), 0);
        due("no letter ahead", x.times(2), 0);
        due("none taken", x.taken(0, 0), HIDDEN);
    }

    private static void partsUnderWay() {
        ContentRules x = rules("a=([b,c?&d&e?],f)+");
        due("begun", reads(x, 0, "d"), 0);
        due("d", x.parts(0), 2);
        reads(x, 0, "db");
        due("d, b", x.parts(0), 3);
        due("could come", x.read(3), 1 << 2 | 1 << 4 | 1 << 5);
        reads(x, 0, "dbcf");
        due("not around f", x.parts(0), 0);
        reads(x, 0, "dbcfb");
        due("anew", x.parts(0), 1);
        reads(x, 0, "dbed");
        due("wrong at 3", x.read(2), 3);
        due("all over", x.parts(0), 7);
        due("no any", x.parts(1), HIDDEN);
        due("no any", x.parts(-1), HIDDEN);
        reads(x, 0, "");
        due("no letter ahead", x.parts(0), 0);
    }

    private static void mending() {
        ContentRules x = rules("a=b,c,d?");
        int[][] dues = {{0, NONE, NONE}, {1, 0, NONE}, {2, 1, 2}, {3, 0, 1}, {NONE, NONE, NONE}, {2, 0, 1}, {1, 1, NONE}};
        String[] words = {"bc", "bbc", "b", "xcd", "xxcd", "cd", "bcc"};
        for (int i = 0; i < words.length; i++) {
            reads(x, 0, words[i]);
            for (int what = 0; what < 3; what++) {
                due("mended " + words[i] + " " + what, x.mended(what), dues[i][what]);
            }
            due("no what", x.mended(3), NONE);
            due("no what", x.mended(-1), NONE);
        }
        ContentRules y = rules("a=b*,c");
        due("24", reads(y, 0, "bbbbbbbbbbbbbbbbbbbbbbbb"), 0);
        due("a 25th", y.mended(0), 2);
        due("at the end", y.mended(1), 24);
        due("c", y.mended(2), 2);
        due("told anew", y.reletter(0, 0, 2), 0);
        due("not SURE", y.mended(0), NONE);
        due("told anew", y.reletter(0, 1, 1), 1);
        due("all are b by now: none mends", y.mended(0), NONE);
        reads(y, 0, "cb");
        due("nothing is needed", y.mended(0), 0);
        due("what was read stays", y.reletter(0, 1, 3), 1);
        due("as it was", y.read(4), 1);
        due("mended by the RULE now", y.mended(0), 3);
        due("there", y.mended(1), 1);
        due("by d", y.mended(2), 3);
    }

    private static void unlikeRules() {
        ContentRules x = rules("a=a{0,5};b=a*;c=a|b;d=a|c;e=a?,a;f=0;g=[a&b];h=a,b|b,a");
        due("beyond 4", x.unlike(0, 1, NONE), NONE);
        due("b", x.unlike(2, 3, NONE), 1);
        due("b", x.unlike(2, 3, 0), 1);
        due("b", x.unlike(3, 2, 0), 1);
        due("no more", x.unlike(3, 2, 1), NONE);
        due("below", x.unlike(3, 2, -2), NONE);
        due("not SURE", x.unlike(4, 2, NONE), NONE);
        due("not SURE", x.unlike(2, 4, NONE), NONE);
        due("alike", x.unlike(6, 7, NONE), NONE);
        due("itself", x.unlike(6, 6, NONE), NONE);
        due("the empty one", x.unlike(5, 6, NONE), 0);
        due("has no letter", x.unlike(5, 6, 0), NONE);
        due("no rule", x.unlike(8, 6, NONE), NONE);
        due("no rule", x.unlike(6, -1, NONE), NONE);
        due("told anew", x.recount(0, 0, 0, 3), 1);
        due("aaaa", x.unlike(0, 1, NONE), 4);
        due("aaaa", x.unlike(0, 1, 3), 0);
        due("aaaa", x.unlike(0, 1, 4), NONE);
    }

    private static void things() {
        ContentRules x = rules("a=b,c?;b=d+|0;u=a?,a");
        due("things", document(x, "a(b(d,d,e),c(u(a)),b)"), 9);
        int[][] dues = {
            {0, 3, NONE, 0, 0, 2, 0, 1},
            {1, 3, 0, 1, 0, 2, 8, 1},
            {3, 0, 1, 2, 1, NONE, 0, 0},
            {3, 0, 1, 2, 1, NONE, 0, 0},
            {4, 0, 1, 2, 1, NONE, 0, 0},
            {2, 1, 0, 1, 0, 0, 0, 1},
            {20, 1, 5, 2, 2, NONE, 0, 0},
            {0, 0, 6, 3, 0, 0, 2, 0},
            {1, 0, 0, 1, 1, NONE, 0, 0}};
        for (int thing = 0; thing < dues.length; thing++) {
            for (int what = 0; what < 8; what++) {
                due("thing " + thing + " " + what, x.thing(thing, what), dues[thing][what]);
            }
        }
        due("no what", x.thing(0, 8), NO_SUCH);
        due("no what", x.thing(0, -1), NO_SUCH);
        due("no thing", x.thing(9, 0), NO_SUCH);
        due("no thing", x.thing(-1, 0), NO_SUCH);
        due("wrong ones", x.wrong(NONE), 4);
        due("first", x.wrong(0), 0);
        due("second", x.wrong(1), 1);
        due("third", x.wrong(2), 5);
        due("fourth", x.wrong(3), 7);
        due("no more", x.wrong(4), NONE);
        due("below", x.wrong(-2), NONE);
        dueText("message 0", message(x, 0), "a: b at 2, end");
        dueText("message 1", message(x, 1), "a/b: e at 2, d or end");
        dueText("message 5", message(x, 5), "a/c: u at 0, end");
        dueText("message 7", message(x, 7), "a/c/u/a: end at 0, b");
        due("not wrong", x.message(8, NONE), NONE);
        due("not sure", x.message(6, NONE), NONE);
        due("no thing", x.message(9, NONE), NONE);
        due("no thing", x.message(-1, 0), NONE);
        due("below", x.message(0, -2), NONE);
        due("a document's counts", x.count(3), 4);
        due("fullest", x.count(6), 0);
        due("deepest", x.count(7), 4);
        due("told anew", x.reletter(0, 1, 1), 1);
        due("then a holds b, c, b", x.thing(0, 5), 1);
        dueText("message then", message(x, 0), "a: c at 1, b or end");
    }

    private static void longMessage() {
        ContentRules x = rules("a=[b?&c?&d?],(e|f|g|h|i|j|k|l|m)*,z;b=a{11}");
        document(x, "q(q(q(q(q(q(q(a(z,z)))))))))");
        due("a bracket too many", x.count(2), 0);
        due("8 within one another", document(x, "q(q(q(q(q(q(a(z))))))"), NONE);
        due("8 within one another", document(x, "q(q(q(q(q(q(a(y)))))))"), 8);
        dueText("long", message(x, 6), "q/q/q/q/q/q/a: y at 0, b or c or d or e or f or g or h or i or j or k or l or m or z");
        document(x, "b(a,a,a,a,a,a,a,a,a,a,a,c)");
        dueText("two digits", message(x, 0), "b: c at 11, end");
        document(x, "b(a,a,a,a,a,a,a,a,a,a)");
        dueText("ten", message(x, 0), "b: end at 10, a");
    }

    private static void toldAnew() {
        ContentRules x = rules("a=(b{1,2}){2},b;c=d");
        due("not sure", x.rule(0, 6), 0);
        due("no rule", x.recount(2, 0, 0, 1), NONE);
        due("no rule", x.recount(-1, 0, 0, 1), NONE);
        due("no count", x.recount(0, 2, 0, 1), NONE);
        due("no count", x.recount(0, -1, 0, 1), NONE);
        due("no count ahead of no number", x.recount(1, 0, -1, 1), NONE);
        due("from below", x.recount(0, 0, -1, 1), -2);
        due("from above", x.recount(0, 0, 13, NONE), -2);
        due("to above", x.recount(0, 0, 1, 13), -2);
        due("to 0", x.recount(0, 0, 0, 0), -2);
        due("to below from", x.recount(0, 0, 3, 2), -2);
        due("to below all", x.recount(0, 0, 3, -2), -2);
        due("it is so", x.recount(0, 0, 1, 2), -3);
        due("sure then", x.recount(0, 0, 2, 2), 1);
        due("shortest", x.rule(0, 8), 5);
        due("12 to 12", x.recount(0, 0, 12, 12), 1);
        due("shortest", x.rule(0, 8), 25);
        due("without end", x.recount(0, 0, 0, NONE), 0);
        due("from", x.counted(0, 0, 0), 0);
        due("to", x.counted(0, 0, 1), NONE);
        due("longest", x.rule(0, 9), NONE);
        due("shortest", x.rule(0, 8), 1);
        due("what is counted has the empty WORD by now", x.counted(0, 1, 4), 1);
        due("no rule", x.reletter(2, 0, 1), NONE);
        due("no occurrence", x.reletter(0, 2, 1), NONE);
        due("no occurrence", x.reletter(0, -1, 99), NONE);
        due("no letter", x.reletter(0, 0, -1), -2);
        due("no letter", x.reletter(0, 0, 26), -2);
        due("it is so", x.reletter(0, 0, 1), -3);
        due("z", x.reletter(0, 1, 25), 0);
        due("letters", x.rule(0, 10), 1 << 25 | 2);
        due("clear but not sure", x.rule(0, 5), 1);
        due("sure", x.recount(0, 1, 1, 1), 1);
        due("CLEAR ones", x.count(4), 3);
        due("SURE ones", x.count(5), 3);
        due("read", reads(x, 0, "bbz"), 1);
        due("then", x.recount(0, 0, 0, 1), 1);
        due("TIMES as they were told", x.times(0), 0);
        due("the END as it was told", x.read(4), 1);
        due("mended as it is now", x.mended(0), 1);
        due("the first", x.mended(1), 0);
    }

    private static void counts() {
        ContentRules x = rules("a=b|b;c=(b{1,2}){2};d=0");
        due("clear ones", x.count(4), 6);
        due("sure ones", x.count(5), 4);
        document(x, "a(b,c(d,d),d(e,e))");
        due("of several the lowest", x.count(6), 0);
        document(x, "a(c(d,d,d),d(e,e,e))");
        due("of several the lowest", x.count(6), 1);
        due("things", x.count(2), 9);
        due("wrong", x.count(3), 1);
        due("deep", x.count(7), 3);
        document(x, "z");
        due("alone", x.count(6), 0);
        due("alone", x.count(7), 1);
        feed(x, "abc");
        due("bytes", x.count(0), 3);
        due("no what", x.count(8), NONE);
        due("no what", x.count(-1), NONE);
    }

    private static void longestOfAll() {
        String row = "a,b,c,d,e,f,g,h,i,j,k,l,m,n,o,p";
        ContentRules x = rules("z=((" + row + "){12}){12}");
        due("2304", x.rule(0, 8), 2304);
        due("2304", x.rule(0, 9), 2304);
        due("the last", x.shortest(0, 2303), 15);
        due("sure", x.rule(0, 6), 1);
        due("no more", x.shortest(0, 2304), NONE);
        due("o twice in a row is still SURE", x.reletter(0, 15, 14), 1);
        ContentRules y = rules("z=[(d{12}){12}&(c{12}){12}&(b{12}){12}&(a{12}){12}],(x|x)");
        due("576", y.witness(0, true, 5), 576);
        due("d last", y.witness(0, true, 0), 0);
        due("a first", y.shown(0, true, 0), 0);
        due("then b", y.shown(0, true, 144), 1);
        due("d at last", y.shown(0, true, 575), 3);
        due("577", y.rule(0, 8), 577);
        due("x", y.shortest(0, 576), 23);
        ContentRules w = rules("z=((b,a,a,a,a,a,a,a){12}){12}|((a,b,b,b,b,b,b,b){12}){12}");
        due("the second", w.shortest(0, 0), 0);
        due("the second", w.shortest(0, 1151), 1);
        due("1152", w.rule(0, 8), 1152);
    }

    public static void main(String[] args) {
        newObject();
        feedAndEnd();
        faultsOfRules();
        faultsOfNumbers();
        faultsOfDocuments();
        rulesAndDocument();
        aboutRules();
        aboutSigns();
        witnesses();
        mostConflicts();
        shortestWords();
        numbersOfWords();
        reading();
        partsUnderWay();
        mending();
        unlikeRules();
        things();
        longMessage();
        toldAnew();
        counts();
        longestOfAll();
        System.out.println(asked + " answers");
        System.out.println(wrong == 0 ? "all answers are as due" : wrong + " answers are not as due");
        if (wrong != 0) {
            System.exit(1);
        }
    }
}
