import java.util.ArrayList;
import java.util.List;

/**
 * A call that is refused, or that only asks, changes nothing: every answer is as it was before. And a
 * 512th call is answered as the first ones are.
 */
public final class RefusedCallTest {
    private static final int NONE = Sheet.NONE;
    private static final int MIN = Integer.MIN_VALUE;
    private static final int MAX = Integer.MAX_VALUE;
    private static final int MOST_CALLS = 512;
    private static final Sheet SHEET = new Sheet();

    /** RULES (the second isn't SURE), a DOCUMENT (its first THING is WRONG), letters read, bytes on the TAPE. */
    private static ContentRules full(String tape) {
        ContentRules x = SHEET.with("a=b,[c&d]*,h?;e=(f{1,2}){2},f?;g=b", "a(b,e(f),g)");
        SHEET.due("read", Sheet.reads(x, 0, "bdca"), 0);
        Sheet.tape(x, tape);
        return x;
    }

    /** Some 220 answers: two such rows and what is between them stay within 512 calls. */
    private static List<Integer> everything(ContentRules x) {
        List<Integer> all = new ArrayList<>();
        for (int what = 0; what < 8; what++) {
            all.add(x.count(what));
            all.add(x.read(what));
            all.add(x.mended(what));
        }
        all.add(x.fault(0));
        all.add(x.fault(1));
        for (int rule = 0; rule < 2; rule++) {
            addRule(all, x, rule);
        }
        for (int i = 0; i < 4; i++) {
            all.add(x.taken(i, 0));
            all.add(x.taken(i, 1));
            all.add(x.times(i));
            all.add(x.parts(i));
            all.add(x.wrong(i - 1));
            all.add(x.message(i, NONE));
            all.add(x.unlike(0, 2, i - 1));
            for (int what = 0; what < 8; what++) {
                all.add(x.thing(i, what));
            }
        }
        for (int k = 0; k < 5; k++) {
            all.add(x.message(0, 6 + k));
            all.add(x.words(0, k));
        }
        return all;
    }

    private static void addRule(List<Integer> all, ContentRules x, int rule) {
        for (int what = 0; what <= 10; what++) {
            all.add(x.rule(rule, what));
        }
        for (int what = 0; what <= 6; what++) {
            all.add(x.occurrence(rule, 0, what));
            all.add(x.occurrence(rule, 1, what));
        }
        for (int count = 0; count < 3; count++) {
            all.add(x.counted(rule, count, 0));
            all.add(x.counted(rule, count, 1));
        }
        for (int what = 0; what <= 5; what++) {
            all.add(x.witness(rule, false, what));
            all.add(x.witness(rule, true, what));
        }
        all.add(x.any(rule, 0, 1));
        all.add(x.shown(rule, false, 1));
        all.add(x.shown(rule, true, 1));
        all.add(x.shortest(rule, 0));
    }

    /** Which call it is that shall change nothing. */
    private static long call(ContentRules x, String name, int... n) {
        switch (name) {
            case "feed": return x.feed(n[0], n[1], n[2], n[3], n[4]);
            case "end": return x.end(n[0]) ? 1 : 0;
            case "fault": return x.fault(n[0]);
            case "rules": return x.rules();
            case "document": return x.document();
            case "rule": return SHEET.throwsFor(x, n[0], n[1]) ? 1 : 0;
            case "occurrence": return x.occurrence(n[0], n[1], n[2]);
            case "counted": return x.counted(n[0], n[1], n[2]);
            case "any": return x.any(n[0], n[1], n[2]);
            case "witness": return x.witness(n[0], n[1] == 1, n[2]);
            case "shown": return x.shown(n[0], n[1] == 1, n[2]);
            case "shortest": return x.shortest(n[0], n[1]);
            case "words": return x.words(n[0], n[1]);
            case "reads": return x.reads(n[0]);
            case "read": return x.read(n[0]);
            case "taken": return x.taken(n[0], n[1]);
            case "times": return x.times(n[0]);
            case "parts": return x.parts(n[0]);
            case "mended": return x.mended(n[0]);
            case "unlike": return x.unlike(n[0], n[1], n[2]);
            case "thing": return x.thing(n[0], n[1]);
            case "wrong": return x.wrong(n[0]);
            case "message": return x.message(n[0], n[1]);
            case "recount": return x.recount(n[0], n[1], n[2], n[3]);
            case "reletter": return x.reletter(n[0], n[1], n[2]);
            default: return x.count(n[0]);
        }
    }

    private static void stays(String tape, long want, String name, int... numbers) {
        String sentence = name + java.util.Arrays.toString(numbers) + " with " + tape + " on the TAPE";
        ContentRules asked = full(tape);
        List<Integer> before = everything(asked);
        SHEET.due(sentence, call(asked, name, numbers), want);
        SHEET.dueText(sentence + ": all stays", everything(asked).toString(), before.toString());
        // Once more on one that wasn't asked before: nothing is kept from asking.
        ContentRules fresh = full(tape);
        SHEET.due(sentence, call(fresh, name, numbers), want);
        SHEET.dueText(sentence + ": all stays", everything(fresh).toString(), before.toString());
    }

    private static void refusedTexts() {
        for (String tape : new String[] {"", " ", "a=", "a=b;", "a=b;a=c", "a=b{3,1}", "h=i;j=k,(l", "z=[b&c],?"}) {
            stays(tape, NONE, "rules");
        }
        for (String tape : new String[] {"", " ", "=", "h(", "h(i", "h(i,(", "h,i", "h(i))"}) {
            stays(tape, NONE, "document");
        }
        stays("h=i", NONE, "document");
        stays("h(i)", NONE, "rules");
        stays("b=", -3, "reads", 0);
        stays(Sheet.repeat("b", "", 25), -26, "reads", 0);
        stays("b", NONE, "reads", 1);
        stays("b", NONE, "reads", 3);
        stays("b", NONE, "reads", -1);
        stays(Sheet.repeat("b", "", 400), NONE, "feed", 0x62000000, 0, 0, 0, 0);
        stays(Sheet.repeat("b", "", 399), NONE, "feed", 0x62000000, 0, 0, 0, 0x62);
        stays(Sheet.repeat("b", "", 381), NONE, "feed", -1, -1, -1, -1, -1);
        stays("ab", 2, "feed", 0, 0, 0, 0, 0);
        stays("ab", 1, "end", 2);
        stays("ab", 0, "end", 3);
        stays("ab", 0, "end", -1);
        stays("ab", 0, "end", MIN);
        stays("ab", 0, "end", MAX);
    }

    private static void asking() {
        stays("a=b", NONE, "fault", 0);
        stays("a(b)", NONE, "fault", 1);
        stays("h=[i&j];k=l*|m", NONE, "fault", 0);
        stays("h(i,j(k),l,m,n,o)", NONE, "fault", 1);
        stays("h=[i&j&", 7, "fault", 0);
        stays("h(i,j(k", 7, "fault", 1);
        stays("a=b", -2, "fault", 2);
        stays("a", 0, "rule", 2, 10);
        stays("a", 1, "rule", 3, 0);
        stays("a", 1, "rule", 0, 11);
        stays("a", 1, "occurrence", 2, 0, 1);
        stays("a", -2, "occurrence", 2, 1, 1);
        stays("a", 1, "counted", 1, 0, 0);
        stays("a", -2, "counted", 2, 0, 0);
        stays("a", 4, "any", 0, 0, 2);
        stays("a", NONE, "any", 2, 0, 0);
        stays("a", 1, "witness", 1, 0, 5);
        stays("a", 2, "witness", 1, 1, 5);
        stays("a", Sheet.HIDDEN, "witness", 2, 0, 0);
        stays("a", 5, "shown", 1, 0, 1);
        stays("a", NONE, "shown", 1, 0, 2);
        stays("a", NONE, "shown", 2, 1, 0);
        stays("a", 1, "shortest", 2, 0);
        stays("a", NONE, "shortest", 3, 0);
        stays("a", 1, "words", 2, 1);
        stays("a", NONE, "words", 1, 1);
        stays("a", NONE, "words", 0, 5);
        stays("a", 2, "unlike", 2, 0, NONE);
        stays("a", NONE, "unlike", 0, 1, NONE);
        stays("a", NONE, "unlike", 2, 2, 0);
    }

    private static void askingWhatWasRead() {
        stays("a", 3, "read", 2);
        stays("a", NONE, "read", 5);
        stays("a", 0, "taken", 0, 0);
        stays("a", Sheet.HIDDEN, "taken", 3, 0);
        stays("a", 1, "times", 0);
        stays("a", Sheet.HIDDEN, "times", 2);
        stays("a", 3, "parts", 0);
        stays("a", Sheet.HIDDEN, "parts", 1);
        stays("a", 1, "mended", 0);
        stays("a", NONE, "mended", 3);
        stays("a", 6, "thing", 4, 0);
        stays("a", -2, "thing", 5, 0);
        stays("a", 2, "wrong", NONE);
        stays("a", NONE, "wrong", 2);
        stays("a", 't', "message", 0, 6);
        stays("a", NONE, "message", 1, NONE);
        stays("a", 5, "count", 2);
        stays("a", NONE, "count", 8);
    }

    private static void refusedNumbers() {
        int[][] none = {{3, 0, 0, 1}, {-1, 0, 0, 1}, {0, 2, 0, 1}, {0, -1, 0, 1}, {2, 0, 0, 1}, {3, 0, 13, 0}};
        for (int[] n : none) {
            stays("a", NONE, "recount", n);
        }
        int[][] numbers = {{0, 0, -1, 1}, {0, 0, 13, NONE}, {0, 0, 0, 13}, {0, 0, 0, 0}, {1, 1, 3, 2}, {1, 1, 3, -2}};
        for (int[] n : numbers) {
            stays("a", -2, "recount", n);
        }
        int[][] isSo = {{0, 0, 0, NONE}, {0, 1, 0, 1}, {1, 0, 1, 2}, {1, 1, 2, 2}};
        for (int[] n : isSo) {
            stays("a", -3, "recount", n);
        }
        int[][] noLetters = {{3, 0, 0}, {-1, 0, 0}, {0, 4, 0}, {0, -1, 0}, {2, 1, 26}};
        for (int[] n : noLetters) {
            stays("a", NONE, "reletter", n);
        }
        stays("a", -2, "reletter", 0, 0, 26);
        stays("a", -2, "reletter", 0, 0, -1);
        stays("a", -3, "reletter", 0, 0, 1);
        stays("a", -3, "reletter", 1, 1, 5);
    }

    /** What is told anew and then told back leaves all as it was. */
    private static void toldBack() {
        ContentRules x = full("a");
        List<Integer> before = everything(x);
        SHEET.due("told anew", x.recount(1, 0, 2, 2), 1);
        SHEET.due("told back", x.recount(1, 0, 1, 2), 0);
        SHEET.due("told anew", x.reletter(0, 0, 25), 1);
        SHEET.due("told back", x.reletter(0, 0, 1), 1);
        SHEET.dueText("told back: all is as it was", everything(x).toString(), before.toString());
    }

    private static void fiveHundredAndTwelveCalls() {
        ContentRules x = new ContentRules();
        x.feed(0x613d622a, 0, 0, 0, 0);
        x.rules();
        int calls = 2;
        while (calls + 3 <= MOST_CALLS) {
            SHEET.due("feed, call " + calls, x.feed(0x62620000, 0, 0, 0, 0), 2);
            SHEET.due("reads, call " + calls, x.reads(0), 1);
            SHEET.due("times, call " + calls, x.times(0), 2);
            calls += 3;
        }
        SHEET.due("all calls", calls, MOST_CALLS);
    }

    public static void main(String[] args) {
        refusedTexts();
        asking();
        askingWhatWasRead();
        refusedNumbers();
        toldBack();
        fiveHundredAndTwelveCalls();
        SHEET.close();
    }
}
