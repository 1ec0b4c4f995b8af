import java.util.ArrayList;
import java.util.List;
import java.util.Random;
import java.util.regex.Pattern;

/** Random DOCUMENTS held to RULES that are SURE, with Java's own patterns as the judge. */
public final class DocumentTest {
    private static final int DOCUMENTS = 3000;
    private static final int NONE = ContentRules.NONE;

    private static final String[] RULES = {
        "a=(b|c)*,d?;b=a{1,2};c=0;d=[a&b]",
        "a=b?,c{2,3},(d|e)+;b=(a,b)*;e=(c{2}){1,2}",
        "c=(a?,b)+;d=([a&b?],c)*",
        "b=(a,b?){0,3},d;a=b*;d=a?,b?,c?",
        "a=x|x;b=a,b;c=((a,b){2}){2}"};
    private static final String[][] SAME = {
        {"a", "(b|c)*d?", "b", "a{1,2}", "c", "", "d", "ab|ba"},
        {"a", "b?c{2,3}(d|e)+", "b", "(ab)*", "e", "(cc){1,2}"},
        {"c", "(a?b)+", "d", "((ab?|ba)c)*"},
        {"b", "(ab?){0,3}d", "a", "b*", "d", "a?b?c?"},
        {"a", null, "b", "ab", "c", "((ab){2}){2}"}};

    private static int wrong = 0;

    private static void due(String call, Object got, Object want) {
        if (!got.equals(want)) {
            wrong++;
            System.out.println(call + " answered " + got + ", due is " + want);
        }
    }

    private static void feed(ContentRules x, String text) {
        x.end(0);
        for (int at = 0; at < text.length(); at += 20) {
            int[] five = new int[5];
            for (int k = 0; k < 20 && at + k < text.length(); k++) {
                five[k / 4] |= text.charAt(at + k) << 24 - 8 * (k % 4);
            }
            x.feed(five[0], five[1], five[2], five[3], five[4]);
        }
    }

    private static final class Thing {
        char letter;
        Thing around;
        int depth;
        final List<Thing> holds = new ArrayList<>();

        String letters() {
            StringBuilder letters = new StringBuilder();
            for (Thing thing : holds) {
                letters.append(thing.letter);
            }
            return letters.toString();
        }

        String path() {
            return around == null ? "" + letter : around.path() + "/" + letter;
        }
    }

    private static Random random;
    private static List<Thing> things;

    private static String make(Thing around, int depth) {
        Thing thing = new Thing();
        thing.letter = (char) ('a' + random.nextInt(6));
        thing.around = around;
        thing.depth = around == null ? 0 : around.depth + 1;
        things.add(thing);
        if (around != null) {
            around.holds.add(thing);
        }
        StringBuilder text = new StringBuilder().append(thing.letter);
        int n = depth == 0 ? 0 : random.nextInt(5);
        for (int i = 0; i < n && things.size() < 60; i++) {
            text.append(i == 0 ? "(" : ",").append(make(thing, depth - 1));
        }
        return text.append(thing.holds.isEmpty() ? "" : ")").toString();
    }

    private static boolean isBegin(Pattern pattern, String letters) {
        java.util.regex.Matcher matcher = pattern.matcher(letters);
        return matcher.matches() || matcher.hitEnd();
    }

    private static void checkThing(ContentRules x, int i, Thing thing, String[] same) {
        String regex = null;
        boolean hasRule = false;
        for (int k = 0; k < same.length; k += 2) {
            if (same[k].charAt(0) == thing.letter) {
                hasRule = true;
                regex = same[k + 1];
            }
        }
        String about = thing.path() + " " + thing.letters();
        due(about + " letter", x.thing(i, 0), thing.letter - 'a');
        due(about + " holds", x.thing(i, 1), thing.holds.size());
        due(about + " in", x.thing(i, 2), things.indexOf(thing.around));
        due(about + " around", x.thing(i, 3), thing.depth);
        if (hasRule && regex == null) {
            due(about + " unsure", x.thing(i, 4), 2);
            due(about + " place", x.thing(i, 5), NONE);
            return;
        }
        Pattern pattern = Pattern.compile(hasRule ? regex : "");
        String letters = thing.letters();
        boolean isRight = pattern.matcher(letters).matches();
        due(about + " right", x.thing(i, 4), isRight ? 1 : 0);
        if (isRight) {
            due(about + " place", x.thing(i, 5), NONE);
            due(about + " could", x.thing(i, 6), 0);
            due(about + " end", x.thing(i, 7), 0);
            due(about + " message", x.message(i, NONE), NONE);
            return;
        }
        int place = 0;
        while (place < letters.length() && isBegin(pattern, letters.substring(0, place + 1))) {
            place++;
        }
        String ahead = letters.substring(0, place);
        int could = 0;
        String text = "";
        for (char c = 'a'; c <= 'z'; c++) {
            if (isBegin(pattern, ahead + c)) {
                could |= 1 << c - 'a';
                text += (text.isEmpty() ? "" : " or ") + c;
            }
        }
        boolean isEnd = pattern.matcher(ahead).matches();
        text += isEnd ? (text.isEmpty() ? "" : " or ") + "end" : "";
        String found = place < letters.length() ? letters.substring(place, place + 1) : "end";
        due(about + " place", x.thing(i, 5), place);
        due(about + " could", x.thing(i, 6), could);
        due(about + " end", x.thing(i, 7), isEnd ? 1 : 0);
        String message = thing.path() + ": " + found + " at " + place + ", " + text;
        due(about + " message length", x.message(i, NONE), message.length());
        for (int k = 0; k < message.length(); k++) {
            due(about + " message " + k, x.message(i, k), (int) message.charAt(k));
        }
    }

    public static void main(String[] args) {
        int wrongThings = 0;
        for (int seed = 0; seed < DOCUMENTS && wrong < 30; seed++) {
            random = new Random(seed);
            things = new ArrayList<>();
            String text = make(null, random.nextInt(5));
            int r = seed % RULES.length;
            ContentRules x = new ContentRules();
            if (random.nextBoolean()) {
                feed(x, text);
                due(text, x.document(), things.size());
            }
            feed(x, RULES[r]);
            x.rules();
            if (x.count(2) == 0) {
                feed(x, text);
                due(text, x.document(), things.size());
            }
            List<Integer> wrongOnes = new ArrayList<>();
            int deepest = 0;
            int fullest = 0;
            for (int i = 0; i < things.size(); i++) {
                checkThing(x, i, things.get(i), SAME[r]);
                if (x.thing(i, 4) == 0) {
                    wrongOnes.add(i);
                }
                deepest = Math.max(deepest, things.get(i).depth + 1);
                fullest = things.get(i).holds.size() > things.get(fullest).holds.size() ? i : fullest;
            }
            wrongThings += wrongOnes.size();
            due(text + " wrong ones", x.wrong(NONE), wrongOnes.size());
            due(text + " wrong ones", x.count(3), wrongOnes.size());
            for (int i = 0; i < wrongOnes.size(); i++) {
                due(text + " wrong " + i, x.wrong(i), wrongOnes.get(i));
            }
            due(text + " fullest", x.count(6), fullest);
            due(text + " deepest", x.count(7), deepest);
        }
        System.out.println(DOCUMENTS + " documents, " + wrongThings + " WRONG things");
        System.out.println(wrong == 0 ? "all answers are as due" : wrong + " answers are not as due");
        if (wrong != 0 || wrongThings == 0) {
            System.exit(1);
        }
    }
}
