import java.util.ArrayDeque;
import java.util.ArrayList;
import java.util.Arrays;
import java.util.HashMap;
import java.util.List;
import java.util.Map;
import java.util.Random;
import java.util.Set;
import java.util.HashSet;
import java.util.TreeMap;
import java.util.TreeSet;

/**
 * Random RULES as large as a TEXT may tell them (16 letters, 8 COUNTS up to 12, 4 ANYS), against all
 * states in which reading by them can be: each state is a pile of what is under way, walked step by step.
 */
public final class WideRulesTest {
    private static final int TEXTS = 1500;
    private static final int MOST_STATES = 20000;
    /** Each level and each COUNT in it writes one bracket at most; the root's needs none. */
    private static final int MOST_DEPTH = 6;
    private static final int NONE = ContentRules.NONE;
    private static final int HIDDEN = ContentRules.HIDDEN;
    private static final Sheet SHEET = new Sheet();

    private static Random random;
    private static String about = "";

    private static void due(String call, long got, long want) {
        SHEET.due(about + ": " + call, got, want);
    }

    // ---- RULES made at random ----

    /** Kinds: a (a letter), 0, the sign between parts (, | &), * (a COUNT). */
    private static final class Part {
        char kind;
        int number;
        int letter;
        int from;
        int to;
        final List<Part> parts = new ArrayList<>();
    }

    private static final class Told {
        Part root;
        final List<Part> letters = new ArrayList<>();
        final List<Part> counts = new ArrayList<>();
        final List<Part> anys = new ArrayList<>();
        States states;
    }

    /** What a RULE that is being made may still have. */
    private static int lettersLeft;
    private static int countsLeft;
    private static int anysLeft;
    private static int mostTimes;
    private static List<Integer> lettersToTake;

    private static Part make(int depth, int layers) {
        int kind = random.nextInt(12);
        if (layers > 0 && countsLeft > 0 && kind < 4) {
            return makeCount(depth, layers);
        }
        if (depth == MOST_DEPTH || lettersLeft == 0 || depth > 0 && random.nextInt(MOST_DEPTH) < depth) {
            return makeAtom();
        }
        Part part = new Part();
        part.kind = kind < 6 && anysLeft > 0 ? '&' : kind < 10 ? ',' : '|';
        anysLeft -= part.kind == '&' ? 1 : 0;
        int n = 2 + random.nextInt(3);
        for (int i = 0; i < n; i++) {
            part.parts.add(make(depth + 1, layers));
        }
        return part;
    }

    private static Part makeCount(int depth, int layers) {
        Part part = new Part();
        countsLeft--;
        part.kind = '*';
        setTimes(part);
        part.parts.add(make(depth, layers - 1));
        return part;
    }

    private static void setTimes(Part count) {
        count.from = random.nextInt(mostTimes + 1);
        int least = Math.max(1, count.from);
        count.to = random.nextInt(3) == 0 ? NONE : least + random.nextInt(13 - least);
        count.to = random.nextInt(6) == 0 ? least : count.to;
    }

    private static Part makeAtom() {
        Part part = new Part();
        part.kind = lettersLeft == 0 || random.nextInt(16) == 0 ? '0' : 'a';
        if (part.kind == 'a') {
            lettersLeft--;
            part.letter = lettersToTake.get(lettersLeft);
        }
        return part;
    }

    /** Letters are all unlike, or of a small alphabet, or one among the others stands twice. */
    private static Told tellRule() {
        lettersLeft = 4 + random.nextInt(13);
        countsLeft = random.nextInt(9);
        anysLeft = random.nextInt(5);
        mostTimes = random.nextBoolean() ? 3 : 12;
        lettersToTake = new ArrayList<>();
        for (int i = 0; i < 26; i++) {
            lettersToTake.add(i);
        }
        java.util.Collections.shuffle(lettersToTake, random);
        int kind = random.nextInt(4);
        if (kind == 0) {
            lettersToTake.replaceAll(letter -> letter % 5);
        } else if (kind == 1) {
            lettersToTake.set(random.nextInt(4), lettersToTake.get(4));
        }
        Told told = new Told();
        told.root = make(random.nextInt(4), 2);
        return told;
    }

    /** Writes a part; its signs are numbered as they come. */
    private static String write(Told told, Part part, boolean isBracketed) {
        if (part.kind == 'a') {
            part.number = told.letters.size();
            told.letters.add(part);
            return "" + (char) ('a' + part.letter);
        }
        if (part.kind == '0') {
            return "0";
        }
        if (part.kind == '*') {
            String body = write(told, part.parts.get(0), true);
            body = part.parts.get(0).kind == '*' ? "(" + body + ")" : body;
            part.number = told.counts.size();
            told.counts.add(part);
            return body + "{" + part.from + "," + (part.to == NONE ? "" : part.to) + "}";
        }
        if (part.kind == '&') {
            part.number = told.anys.size();
            told.anys.add(part);
        }
        List<String> all = new ArrayList<>();
        for (Part inner : part.parts) {
            all.add(write(told, inner, part.kind != '&'));
        }
        String text = String.join("" + part.kind, all);
        return part.kind == '&' ? "[" + text + "]" : isBracketed ? "(" + text + ")" : text;
    }

    // ---- states ----

    /** What is under way: the place in a row, the TIME of a COUNT, the PART of an ANY and those ahead of it. */
    private record Under(Part part, int at, int ahead, Under around) { }

    private record Way(int occurrence, int by, Under under) { }

    private static boolean hasEmpty(Part part) {
        switch (part.kind) {
            case 'a':
                return false;
            case '0':
                return true;
            case '|':
                return part.parts.stream().anyMatch(WideRulesTest::hasEmpty);
            case '*':
                return part.from == 0 || hasEmpty(part.parts.get(0));
            default:
                return part.parts.stream().allMatch(WideRulesTest::hasEmpty);
        }
    }

    private static void enter(Part part, int by, Under around, List<Way> ways) {
        if (part.kind == 'a') {
            ways.add(new Way(part.number, by, around));
        } else if (part.kind == '|') {
            part.parts.forEach(inner -> enter(inner, by, around, ways));
        } else if (part.kind == '*') {
            enter(part.parts.get(0), by, new Under(part, 1, 0, around), ways);
        } else if (part.kind == ',') {
            enterRow(part, 0, by, around, ways);
        } else if (part.kind == '&') {
            enterAny(part, 0, by, around, ways);
        }
    }

    /** Tells whether the row can end, too. */
    private static boolean enterRow(Part row, int begin, int by, Under around, List<Way> ways) {
        for (int i = begin; i < row.parts.size(); i++) {
            enter(row.parts.get(i), by, new Under(row, i, 0, around), ways);
            if (!hasEmpty(row.parts.get(i))) {
                return false;
            }
        }
        return true;
    }

    private static boolean enterAny(Part any, int over, int by, Under around, List<Way> ways) {
        boolean canEnd = true;
        for (int i = 0; i < any.parts.size(); i++) {
            if ((over >> i & 1) == 0) {
                enter(any.parts.get(i), by, new Under(any, i, over, around), ways);
                canEnd = canEnd && hasEmpty(any.parts.get(i));
            }
        }
        return canEnd;
    }

    /** The WAYS on when the innermost thing under way is over; tells whether all can end. */
    private static boolean leave(Under under, List<Way> ways) {
        if (under == null) {
            return true;
        }
        Part part = under.part;
        boolean canEnd = true;
        if (part.kind == ',') {
            canEnd = enterRow(part, under.at + 1, NONE, under.around, ways);
        } else if (part.kind == '&') {
            canEnd = enterAny(part, under.ahead | 1 << under.at, NONE, under.around, ways);
        } else {
            Part body = part.parts.get(0);
            if (part.to == NONE || under.at < part.to) {
                enter(body, part.number, new Under(part, under.at + 1, 0, under.around), ways);
            }
            canEnd = under.at >= part.from || hasEmpty(body);
        }
        return canEnd && leave(under.around, ways);
    }

    /** Behind all TIMES that a COUNT without end needs one is as good as another. */
    private static String key(Way way) {
        StringBuilder key = new StringBuilder().append(way.occurrence);
        for (Under under = way.under; under != null; under = under.around) {
            boolean isEndless = under.part.kind == '*' && under.part.to == NONE;
            int at = isEndless ? Math.min(under.at, Math.max(1, under.part.from)) : under.at;
            key.append(' ').append(at).append('.').append(under.ahead);
        }
        return key.toString();
    }

    /** Letters as they were read, and all states behind them that no shorter letters reach. */
    private static final class Behind {
        final Behind before;
        final int letter;
        final List<Way> states = new ArrayList<>();

        Behind(Behind before, int letter) {
            this.before = before;
            this.letter = letter;
        }

        List<Integer> letters() {
            List<Integer> all = new ArrayList<>();
            for (Behind at = this; at.before != null; at = at.before) {
                all.add(0, at.letter);
            }
            return all;
        }
    }

    private static final class States {
        final Told told;
        final TreeSet<Integer> first = new TreeSet<>();
        final TreeSet<Integer> last = new TreeSet<>();
        final Map<Integer, TreeSet<Integer>> next = new TreeMap<>();
        final Set<List<Integer>> conflicts = new HashSet<>();
        List<Integer> shortest;
        int longest;
        boolean isClear = true;
        /** P and both WAYS of the WITNESS, and what is read ahead of it. */
        final List<List<Integer>> witness = new ArrayList<>(Arrays.asList(null, null));
        final List<Behind> behind = new ArrayList<>(Arrays.asList(null, null));
        final Map<String, List<String>> on = new HashMap<>();
        final Set<String> ends = new HashSet<>();

        States(Told told) {
            this.told = told;
        }

        /** A state is the WAY that took the last letter; ahead of all there is none. */
        boolean waysOf(Way state, List<Way> ways) {
            if (state == null) {
                enter(told.root, NONE, null, ways);
                return hasEmpty(told.root);
            }
            return leave(state.under, ways);
        }

        static String keyOf(Way state) {
            return state == null ? "" : key(state);
        }

        int letterOf(Way way) {
            return told.letters.get(way.occurrence).letter;
        }

        /** Walks to all states, shortest letters first, of several the first by letters; false: too many. */
        boolean walk() {
            Behind begin = new Behind(null, NONE);
            begin.states.add(null);
            on.put("", new ArrayList<>());
            List<Behind> level = List.of(begin);
            while (!level.isEmpty()) {
                List<Behind> longer = new ArrayList<>();
                for (Behind read : level) {
                    Map<Integer, Behind> byLetter = new TreeMap<>();
                    for (Way state : read.states) {
                        look(read, state, byLetter);
                    }
                    longer.addAll(byLetter.values());
                }
                if (on.size() > MOST_STATES) {
                    return false;
                }
                level = longer;
            }
            longest = longest();
            return true;
        }

        private void look(Behind read, Way state, Map<Integer, Behind> byLetter) {
            List<Way> ways = new ArrayList<>();
            String key = keyOf(state);
            if (waysOf(state, ways)) {
                ends.add(key);
                shortest = shortest == null ? read.letters() : shortest;
                if (state != null) {
                    last.add(state.occurrence);
                }
            }
            for (Way way : ways) {
                if (state == null) {
                    first.add(way.occurrence);
                } else {
                    next.computeIfAbsent(state.occurrence, x -> new TreeSet<>()).add(way.occurrence);
                }
                String its = key(way);
                on.get(key).add(its);
                if (!on.containsKey(its)) {
                    on.put(its, new ArrayList<>());
                    byLetter.computeIfAbsent(letterOf(way), x -> new Behind(read, x)).states.add(way);
                }
            }
            compare(read, state == null ? NONE : state.occurrence, ways);
        }

        private void compare(Behind read, int p, List<Way> ways) {
            for (Way low : ways) {
                for (Way high : ways) {
                    boolean isLower = low.occurrence != high.occurrence ? low.occurrence < high.occurrence : low.by < high.by;
                    if (isLower && letterOf(low) == letterOf(high)) {
                        List<Integer> conflict = List.of(p, low.occurrence, low.by, high.occurrence, high.by);
                        conflicts.add(conflict);
                        offer(0, read, conflict);
                        if (low.occurrence != high.occurrence) {
                            isClear = false;
                            offer(1, read, conflict);
                        }
                    }
                }
            }
        }

        /** Letters come shortest and first: only among CONFLICTS behind the same ones there is a choice. */
        private void offer(int which, Behind read, List<Integer> conflict) {
            boolean isNone = behind.get(which) == null;
            if (isNone || behind.get(which) == read && Arrays.compare(row(conflict), row(witness.get(which))) < 0) {
                behind.set(which, read);
                witness.set(which, conflict);
            }
        }

        private static int[] row(List<Integer> numbers) {
            return numbers.stream().mapToInt(n -> n).toArray();
        }

        /** State by state, each behind all that lead to it; if some never come, there is a ring. */
        private int longest() {
            Map<String, Integer> leading = new HashMap<>();
            on.values().forEach(all -> all.forEach(key -> leading.merge(key, 1, Integer::sum)));
            Map<String, Integer> length = new HashMap<>();
            ArrayDeque<String> ready = new ArrayDeque<>(List.of(""));
            length.put("", 0);
            int most = 0;
            int seen = 0;
            while (!ready.isEmpty()) {
                String key = ready.remove();
                seen++;
                most = ends.contains(key) ? Math.max(most, length.get(key)) : most;
                for (String its : on.get(key)) {
                    length.merge(its, length.get(key) + 1, Math::max);
                    if (leading.merge(its, -1, Integer::sum) == 0) {
                        ready.add(its);
                    }
                }
            }
            return seen < on.size() ? NONE : most;
        }

        // ---- words, by a RULE that is SURE ----

        Way step(Way state, int letter) {
            List<Way> ways = new ArrayList<>();
            waysOf(state, ways);
            for (Way way : ways) {
                if (letterOf(way) == letter) {
                    return way;
                }
            }
            return null;
        }

        boolean canEnd(Way state) {
            return waysOf(state, new ArrayList<>());
        }

        int couldCome(Way state) {
            List<Way> ways = new ArrayList<>();
            waysOf(state, ways);
            return ways.stream().mapToInt(way -> 1 << letterOf(way)).reduce(0, (a, b) -> a | b);
        }

        boolean isWord(List<Integer> letters) {
            Way state = null;
            for (int letter : letters) {
                state = step(state, letter);
                if (state == null) {
                    return false;
                }
            }
            return canEnd(state);
        }

        int words(Way state, int n) {
            if (n == 0) {
                return canEnd(state) ? 1 : 0;
            }
            List<Way> ways = new ArrayList<>();
            waysOf(state, ways);
            return ways.stream().mapToInt(way -> words(way, n - 1)).sum();
        }

        TreeSet<Integer> letters() {
            TreeSet<Integer> all = new TreeSet<>();
            told.letters.forEach(part -> all.add(part.letter));
            return all;
        }
    }

    // ---- what each RULE answers ----

    private static int bit(boolean is) {
        return is ? 1 : 0;
    }

    private static int bits(Iterable<Integer> numbers) {
        int all = 0;
        for (int n : numbers) {
            all |= 1 << n;
        }
        return all;
    }

    private static void checkRule(ContentRules x, int r, Told told) {
        States states = told.states;
        due("rule 4", x.rule(r, 4), bit(hasEmpty(told.root)));
        due("rule 5", x.rule(r, 5), bit(states.isClear));
        due("rule 6", x.rule(r, 6), bit(states.conflicts.isEmpty()));
        due("rule 7", x.rule(r, 7), states.conflicts.size());
        due("rule 8", x.rule(r, 8), states.shortest.size());
        due("rule 9", x.rule(r, 9), states.longest);
        due("rule 10", x.rule(r, 10), bits(states.letters()));
        for (int i = 0; i < told.letters.size(); i++) {
            due("FIRST " + i, x.occurrence(r, i, 1), bit(states.first.contains(i)));
            due("LAST " + i, x.occurrence(r, i, 2), bit(states.last.contains(i)));
            due("NEXT " + i, x.occurrence(r, i, 3), bits(states.next.getOrDefault(i, new TreeSet<>())));
        }
        for (int i = 0; i < told.counts.size(); i++) {
            due("counted 0 of " + i, x.counted(r, i, 0), told.counts.get(i).from);
            due("counted 1 of " + i, x.counted(r, i, 1), told.counts.get(i).to);
            due("counted 4 of " + i, x.counted(r, i, 4), bit(hasEmpty(told.counts.get(i).parts.get(0))));
        }
        for (int k = 0; k <= states.shortest.size(); k++) {
            due("shortest " + k, x.shortest(r, k), k < states.shortest.size() ? states.shortest.get(k) : NONE);
        }
        checkWitness(x, r, told, false);
        checkWitness(x, r, told, true);
    }

    private static void checkWitness(ContentRules x, int r, Told told, boolean unclear) {
        List<Integer> witness = told.states.witness.get(bit(unclear));
        if (witness == null) {
            due("witness " + unclear, x.witness(r, unclear, 0), HIDDEN);
            due("shown " + unclear, x.shown(r, unclear, 0), NONE);
            return;
        }
        List<Integer> letters = told.states.behind.get(bit(unclear)).letters();
        for (int what = 0; what < 5; what++) {
            due("witness " + unclear + " " + what, x.witness(r, unclear, what), witness.get(what));
        }
        due("witness " + unclear + " 5", x.witness(r, unclear, 5), letters.size());
        letters.add(told.letters.get(witness.get(1)).letter);
        for (int k = 0; k <= letters.size(); k++) {
            due("shown " + unclear + " " + k, x.shown(r, unclear, k), k < letters.size() ? letters.get(k) : NONE);
        }
    }

    // ---- reading ----

    /** As a walk by the RULE goes; often spoiled. */
    private static List<Integer> randomWord(Told told) {
        List<Integer> word = new ArrayList<>();
        int most = random.nextInt(25);
        Way state = null;
        while (word.size() < most) {
            List<Way> ways = new ArrayList<>();
            boolean canEnd = told.states.waysOf(state, ways);
            if (ways.isEmpty() || canEnd && random.nextInt(8) == 0) {
                break;
            }
            state = ways.get(random.nextInt(ways.size()));
            word.add(told.states.letterOf(state));
        }
        int place = random.nextInt(word.size() + 1);
        int letter = random.nextBoolean() || told.letters.isEmpty() ? random.nextInt(26)
                : told.letters.get(random.nextInt(told.letters.size())).letter;
        int change = random.nextInt(5);
        if (change == 0 && word.size() < 24) {
            word.add(place, letter);
        } else if (change == 1 && place < word.size()) {
            word.remove(place);
        } else if (change == 2 && place < word.size()) {
            word.set(place, letter);
        }
        return word;
    }

    private static void checkReading(ContentRules x, int r, Told told) {
        List<Integer> word = randomWord(told);
        StringBuilder text = new StringBuilder();
        word.forEach(letter -> text.append((char) ('a' + letter)));
        due("reads " + text, Sheet.reads(x, r, text.toString()), bit(told.states.isWord(word)));
        Way state = null;
        int place = 0;
        while (place < word.size() && told.states.step(state, word.get(place)) != null) {
            state = told.states.step(state, word.get(place));
            due("taken " + place + " 0 of " + text, x.taken(place, 0), state.occurrence);
            due("taken " + place + " 1 of " + text, x.taken(place, 1), state.by);
            place++;
        }
        due("read 1 of " + text, x.read(1), word.size());
        due("read 2 of " + text, x.read(2), place);
        due("read 3 of " + text, x.read(3), told.states.couldCome(state));
        due("read 4 of " + text, x.read(4), bit(told.states.canEnd(state)));
        due("taken behind the place", x.taken(place, 0), HIDDEN);
        checkCounters(x, told, state, text.toString());
        due("mended " + text, pack(x.mended(0), x.mended(1), x.mended(2)), mend(told.states, word));
    }

    private static void checkCounters(ContentRules x, Told told, Way state, String text) {
        int[] times = new int[told.counts.size()];
        int[] parts = new int[told.anys.size()];
        for (Under under = state == null ? null : state.under; under != null; under = under.around) {
            if (under.part.kind == '*') {
                times[under.part.number] = under.at;
            } else if (under.part.kind == '&') {
                parts[under.part.number] = under.ahead | 1 << under.at;
            }
        }
        for (int i = 0; i < times.length; i++) {
            due("times " + i + " of " + text, x.times(i), times[i]);
        }
        for (int i = 0; i < parts.length; i++) {
            due("parts " + i + " of " + text, x.parts(i), parts[i]);
        }
    }

    private static int pack(int kind, int place, int letter) {
        return (kind * 100 + place) * 100 + letter;
    }

    private static int mend(States states, List<Integer> word) {
        if (states.isWord(word)) {
            return pack(0, NONE, NONE);
        }
        for (int i = 0; i < word.size(); i++) {
            List<Integer> less = new ArrayList<>(word);
            less.remove(i);
            if (states.isWord(less)) {
                return pack(1, i, NONE);
            }
        }
        for (int i = 0; i <= word.size(); i++) {
            for (int letter : states.letters()) {
                List<Integer> more = new ArrayList<>(word);
                more.add(i, letter);
                if (states.isWord(more)) {
                    return pack(2, i, letter);
                }
            }
        }
        for (int i = 0; i < word.size(); i++) {
            for (int letter : states.letters()) {
                List<Integer> other = new ArrayList<>(word);
                other.set(i, letter);
                if (states.isWord(other)) {
                    return pack(3, i, letter);
                }
            }
        }
        return pack(NONE, NONE, NONE);
    }

    // ---- two RULES ----

    private record Pair(List<Integer> letters, boolean isOnes, Way one, boolean isTwos, Way two) { }

    /** The shortest letters that are a word of one alone; null: there are none. */
    private static List<Integer> unlike(States one, States two) {
        TreeSet<Integer> letters = one.letters();
        letters.addAll(two.letters());
        List<Pair> level = List.of(new Pair(List.of(), true, null, true, null));
        for (int n = 0; n <= 4; n++) {
            Set<String> seen = new HashSet<>();
            List<Pair> longer = new ArrayList<>();
            for (Pair pair : level) {
                if ((pair.isOnes && one.canEnd(pair.one)) != (pair.isTwos && two.canEnd(pair.two))) {
                    return pair.letters;
                }
                for (int letter : letters) {
                    Way next = pair.isOnes ? one.step(pair.one, letter) : null;
                    Way other = pair.isTwos ? two.step(pair.two, letter) : null;
                    boolean isNew = seen.add(States.keyOf(next) + "/" + States.keyOf(other));
                    if (isNew && (next != null || other != null)) {
                        List<Integer> all = new ArrayList<>(pair.letters);
                        all.add(letter);
                        longer.add(new Pair(all, next != null, next, other != null, other));
                    }
                }
            }
            level = longer;
        }
        return null;
    }

    private static void checkUnlike(ContentRules x, int r, int s, Told one, Told two) {
        List<Integer> letters = unlike(one.states, two.states);
        due("unlike " + r + " " + s, x.unlike(r, s, NONE), letters == null ? NONE : letters.size());
        for (int k = 0; k < 5; k++) {
            boolean is = letters != null && k < letters.size();
            due("unlike " + r + " " + s + " " + k, x.unlike(r, s, k), is ? letters.get(k) : NONE);
        }
    }

    // ---- all of it ----

    private static boolean walk(Told told) {
        told.states = new States(told);
        return told.states.walk();
    }

    private static void checkAll(ContentRules x, List<Told> rules) {
        for (int r = 0; r < rules.size(); r++) {
            Told told = rules.get(r);
            checkRule(x, r, told);
            boolean isSure = told.states.conflicts.isEmpty();
            for (int n = 0; n <= 4; n++) {
                due("words " + n, x.words(r, n), isSure ? told.states.words(null, n) : NONE);
            }
            for (int k = 0; k < 3 && isSure; k++) {
                checkReading(x, r, told);
            }
        }
        for (int r = 0; r < rules.size(); r++) {
            for (int s = 0; s < rules.size(); s++) {
                boolean areSure = rules.get(r).states.conflicts.isEmpty() && rules.get(s).states.conflicts.isEmpty();
                if (areSure) {
                    checkUnlike(x, r, s, rules.get(r), rules.get(s));
                } else {
                    due("unlike " + r + " " + s, x.unlike(r, s, NONE), NONE);
                }
            }
        }
    }

    /** Tells a sign of the last RULE anew; false: then there would be too many states. */
    private static boolean tellAnew(ContentRules x, List<Told> rules) {
        int r = rules.size() - 1;
        Told told = rules.get(r);
        if (!told.counts.isEmpty() && random.nextBoolean()) {
            Part count = told.counts.get(random.nextInt(told.counts.size()));
            mostTimes = 12;
            int before = count.from * 100 + count.to;
            setTimes(count);
            boolean isSo = before == count.from * 100 + count.to;
            int got = x.recount(r, count.number, count.from, count.to);
            return dueAnew("recount", told, got, isSo);
        }
        if (!told.letters.isEmpty()) {
            Part letter = told.letters.get(random.nextInt(told.letters.size()));
            int before = letter.letter;
            letter.letter = random.nextInt(26);
            int got = x.reletter(r, letter.number, letter.letter);
            return dueAnew("reletter", told, got, before == letter.letter);
        }
        return true;
    }

    private static boolean dueAnew(String call, Told told, int got, boolean isSo) {
        if (!walk(told)) {
            return false;
        }
        due(call, got, isSo ? -3 : bit(told.states.conflicts.isEmpty()));
        return true;
    }

    /** The last RULE is a second telling of the one ahead of it: told anew they part by one sign. */
    private static String tellText(int seed, List<Told> rules) {
        StringBuilder text = new StringBuilder();
        for (int r = 0; r < 2; r++) {
            random = new Random(seed);
            Told told = tellRule();
            text.append(r == 0 ? "" : ";").append((char) ('a' + r)).append("=").append(write(told, told.root, false));
            rules.add(told);
        }
        return text.toString();
    }

    public static void main(String[] args) {
        int tried = 0;
        int sure = 0;
        for (int seed = 1; seed <= TEXTS; seed++) {
            List<Told> rules = new ArrayList<>();
            String text = tellText(seed, rules);
            about = seed + " " + text;
            if (text.length() > 400 || !walk(rules.get(0)) || !walk(rules.get(1))) {
                continue;
            }
            tried++;
            sure += bit(rules.get(0).states.conflicts.isEmpty());
            ContentRules x = SHEET.with(text);
            checkAll(x, rules);
            for (int k = 0; k < 2 && tellAnew(x, rules); k++) {
                checkAll(x, rules);
            }
        }
        System.out.println(tried + " texts (" + sure + " rules SURE)");
        SHEET.due("texts enough", tried > TEXTS / 2 && sure > TEXTS / 10, true);
        SHEET.close();
    }
}
