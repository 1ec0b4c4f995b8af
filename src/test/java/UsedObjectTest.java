import java.util.ArrayList;
import java.util.List;

/**
 * An object that has had other RULES, DOCUMENTS and letters before answers as a new one does: nothing of
 * what was told before is left in what is told anew.
 */
public final class UsedObjectTest {
    private static final int NONE = Sheet.NONE;
    private static final Sheet SHEET = new Sheet();

    private static final String[] RULES = {
        "z=[a&b&c&d]", "z=b,[c&d?]", "z=0", "z=b", "z=b*,0", "z=0|b", "z=[0&b]", "z=[b,c&0&d]",
        "z=((b|c){2},d?)*", "z=b|c,d|e", "z=(b|c)*", "z=b{2,3},b", "z=[[b&c?]&d]{2}", "z=a,b,c,d,e,f,g,h,i,j,k,l,m,n,o,p",
        "z=0,0,[0&b]", "z=(0*)*", "z=[b?&c?]*", "z=(b{1,2}){2}", "z=b|b", "z=b+,[c&d&e]?;y=b*;x=0"};
    private static final String[] DOCUMENTS = {
        "z", "z(b)", "z(b,c(z(d)),y(b))", "z(z(z(z(z(z(z(z)))))))", "z(a,b,c,d,e)", "b(z,z(b),z(c,b))"};
    private static final String[] WORDS = {"", "b", "bb", "bcd", "cb", "dcba", "x"};

    private static void tell(ContentRules x, int rules, int document, int word) {
        Sheet.tape(x, RULES[rules]);
        x.rules();
        Sheet.document(x, DOCUMENTS[document]);
        Sheet.reads(x, 0, WORDS[word]);
        x.end(0);
    }

    private static List<Integer> everything(ContentRules x) {
        List<Integer> all = new ArrayList<>();
        for (int what = 0; what < 11; what++) {
            all.add(x.rule(0, what));
            all.add(x.count(what));
            all.add(x.read(what));
            all.add(x.mended(what));
        }
        for (int i = 0; i < 5; i++) {
            addSigns(all, x, i);
            for (int what = 0; what < 8; what++) {
                all.add(x.thing(i, what));
            }
            all.add(x.taken(i, 0));
            all.add(x.taken(i, 1));
            all.add(x.times(i));
            all.add(x.parts(i));
            all.add(x.wrong(i - 1));
            all.add(x.message(i, NONE));
            all.add(x.message(i, 9));
            all.add(x.words(0, i));
            all.add(x.shortest(0, i));
            all.add(x.shown(0, false, i));
            all.add(x.shown(0, true, i));
            all.add(x.unlike(0, 1, i - 1));
            all.add(x.unlike(1, 2, i - 1));
        }
        for (int what = 0; what < 6; what++) {
            all.add(x.witness(0, false, what));
            all.add(x.witness(0, true, what));
        }
        for (String word : WORDS) {
            all.add(Sheet.reads(x, 0, word));
            all.add(x.read(2));
            all.add(x.times(0));
            all.add(x.times(1));
            all.add(x.parts(0));
            all.add(x.parts(1));
            all.add(x.mended(1));
        }
        return all;
    }

    private static void addSigns(List<Integer> all, ContentRules x, int i) {
        for (int what = 0; what < 7; what++) {
            all.add(x.occurrence(0, i, what));
        }
        for (int what = 0; what < 5; what++) {
            all.add(x.counted(0, i, what));
            all.add(x.any(0, i, what));
        }
    }

    private static void everyPair() {
        for (int last = 0; last < RULES.length; last++) {
            int document = last % DOCUMENTS.length;
            int word = last % WORDS.length;
            ContentRules fresh = new ContentRules();
            tell(fresh, last, document, word);
            String want = everything(fresh).toString();
            for (int first = 0; first < RULES.length; first++) {
                // What two RULES before left behind is taken up again; one before stands beside it.
                ContentRules used = new ContentRules();
                tell(used, first, first % DOCUMENTS.length, first % WORDS.length);
                tell(used, (first + last) % RULES.length, (first + 1) % DOCUMENTS.length, last % WORDS.length);
                tell(used, last, document, word);
                SHEET.dueText(RULES[first] + " before " + RULES[last], everything(used).toString(), want);
            }
        }
    }

    private static void askedInBetween() {
        for (int last = 0; last < RULES.length; last++) {
            ContentRules fresh = new ContentRules();
            tell(fresh, last, 1, 2);
            String want = everything(fresh).toString();
            for (int first = 0; first < RULES.length; first++) {
                ContentRules used = new ContentRules();
                tell(used, first, 2, 3);
                used.shown(0, false, 0);
                used.shown(0, true, 0);
                used.shortest(0, 0);
                used.unlike(0, 1, NONE);
                used.mended(0);
                used.message(0, 0);
                used.reletter(0, 0, 7);
                used.recount(0, 0, 3, 4);
                tell(used, last, 1, 2);
                SHEET.dueText(RULES[first] + " told anew before " + RULES[last], everything(used).toString(), want);
            }
        }
    }

    /** A TEXT of nearly 400 signs, looked at as often as calls may come. */
    private static void sameTextOverAndOver() {
        String longest = Sheet.repeat("(b|0)", ",", 16) + "|" + Sheet.repeat("0", "|", 140);
        ContentRules x = new ContentRules();
        for (int n = 0; n < 20; n++) {
            Sheet.tape(x, "z=" + longest);
            SHEET.due("no FAULT, over and over", x.fault(0), NONE);
            SHEET.due("no FAULT, over and over", x.fault(1), 1);
            SHEET.due("RULES over and over", x.rules(), 1);
            SHEET.due("letters over and over", x.rule(0, 1), 16);
        }
    }

    private static void toldAnewOverAndOver() {
        ContentRules x = new ContentRules();
        Sheet.tape(x, "z=[b?&c{2}],0?");
        x.rules();
        for (int n = 1; n <= 40; n++) {
            int from = n % 12;
            SHEET.due("told anew", x.recount(0, 1, from, from + 1), 1);
            SHEET.due("shortest", x.rule(0, 8), from);
            SHEET.due("longest", x.rule(0, 9), from + 2);
            SHEET.due("the empty WORD", x.rule(0, 4), from == 0 ? 1 : 0);
            SHEET.due("WORDS of two letters", x.words(0, 2), (from <= 1 ? 2 : 0) + (from == 2 || from == 1 ? 1 : 0));
            SHEET.due("told anew", x.recount(0, 2, from, NONE), 1);
            SHEET.due("longest still", x.rule(0, 9), from + 2);
        }
    }

    public static void main(String[] args) {
        everyPair();
        askedInBetween();
        sameTextOverAndOver();
        toldAnewOverAndOver();
        SHEET.close();
    }
}
