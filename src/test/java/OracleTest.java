import java.util.ArrayList;
import java.util.Collections;
import java.util.HashMap;
import java.util.HashSet;
import java.util.List;
import java.util.Map;
import java.util.Random;
import java.util.Set;
import java.util.TreeMap;
import java.util.TreeSet;

/**
 * Tells out all READINGS of small random PATTERNS, word by word as the document defines them,
 * and compares every answer about RULES and reading with what these READINGS say.
 */
public final class OracleTest {
    private static final int MOST_DERIVED = 6000;
    private static final int RULE_TEXTS = 6000;
    private static final int NONE = ContentRules.NONE;

    private static int wrong = 0;
    private static int asked = 0;
    private static String about = "";

    private static void due(String call, long got, long want) {
        asked++;
        if (got != want) {
            wrong++;
            if (wrong < 40) {
                System.out.println(about + ": " + call + " answered " + got + ", due is " + want);
            }
        }
    }

    /** A pattern, made at random; signs are numbered while its text is written. */
    private static final class Pat {
        char kind;
        int letter;
        int number;
        int from;
        int to;
        Pat counted;
        final List<Pat> parts = new ArrayList<>();
        int occurrences;
    }

    private static final class Told {
        int name;
        Pat root;
        final List<Pat> letters = new ArrayList<>();
        final List<Pat> counts = new ArrayList<>();
        final List<Pat> anys = new ArrayList<>();
        /** Enough for CONFLICTS; enough for words of five letters. */
        Readings few;
        Readings many;
    }

    private static final class Readings {
        final Set<List<Integer>> all = new HashSet<>();
        final Map<List<Integer>, TreeSet<Integer>> next = new HashMap<>();
        final Set<String> words = new HashSet<>();
    }

    private static final class TooMany extends RuntimeException {
        private static final long serialVersionUID = 1L;
    }

    // ---- making patterns ----

    private static Random random;
    private static int lettersLeft;
    private static int countsLeft;
    private static int anysLeft;
    private static int alphabet;

    private static Pat pattern(int depth, int layers) {
        int kind = random.nextInt(10);
        if (depth == 0 || lettersLeft <= 1 || kind < 2) {
            return atomPat();
        }
        Pat pat = new Pat();
        if (kind < 5) {
            pat.kind = ',';
        } else if (kind < 7) {
            pat.kind = '|';
        } else if (kind == 7 && anysLeft > 0) {
            anysLeft--;
            pat.kind = '&';
        } else if (layers > 0 && countsLeft > 0) {
            countsLeft--;
            pat.kind = '*';
            pat.from = random.nextInt(4);
            pat.to = random.nextInt(3) == 0 ? NONE : Math.max(1, pat.from + random.nextInt(3));
            pat.parts.add(pattern(depth - 1, layers - 1));
            return pat;
        } else {
            pat.kind = ',';
        }
        int n = 2 + random.nextInt(pat.kind == '&' ? 3 : 2);
        for (int i = 0; i < n; i++) {
            pat.parts.add(pattern(depth - 1, layers));
        }
        return pat;
    }

    private static Pat atomPat() {
        Pat pat = new Pat();
        if (lettersLeft == 0 || random.nextInt(12) == 0) {
            pat.kind = '0';
        } else {
            lettersLeft--;
            pat.kind = 'a';
            pat.letter = random.nextInt(alphabet);
        }
        return pat;
    }

    private static Told tellRule(int name) {
        lettersLeft = 2 + random.nextInt(6);
        countsLeft = random.nextInt(4);
        anysLeft = random.nextInt(3);
        alphabet = 1 + random.nextInt(5);
        Told told = new Told();
        told.name = name;
        told.root = pattern(1 + random.nextInt(4), 2);
        return told;
    }

    private static String write(Told told) {
        return (char) ('a' + told.name) + "=" + write(told, told.root, null, false);
    }

    /** Brackets stand around what would be read in another way without; sometimes around all. */
    private static String write(Told told, Pat pat, Pat around, boolean isUnit) {
        if (pat.kind == 'a') {
            pat.number = told.letters.size();
            pat.occurrences = 1 << pat.number;
            pat.counted = around;
            told.letters.add(pat);
            return blank() + (char) ('a' + pat.letter) + blank();
        }
        if (pat.kind == '0') {
            return "0";
        }
        if (pat.kind == '*') {
            String body = write(told, pat.parts.get(0), pat, true);
            if (pat.parts.get(0).kind == '*') {
                body = "(" + body + ")";
            }
            pat.number = told.counts.size();
            pat.counted = around;
            told.counts.add(pat);
            pat.occurrences = pat.parts.get(0).occurrences;
            return body + blank() + countSign(pat);
        }
        if (pat.kind == '&') {
            pat.number = told.anys.size();
            told.anys.add(pat);
        }
        StringBuilder text = new StringBuilder();
        for (Pat part : pat.parts) {
            if (text.length() > 0) {
                text.append(pat.kind);
            }
            boolean isPartUnit = pat.kind == ',' && (part.kind == ',' || part.kind == '|') || pat.kind == '|' && part.kind == '|';
            text.append(write(told, part, around, isPartUnit));
            pat.occurrences |= part.occurrences;
        }
        if (pat.kind == '&') {
            return "[" + text + blank() + "]";
        }
        return isUnit || random.nextInt(8) == 0 ? "(" + text + ")" : text.toString();
    }

    private static String blank() {
        return random.nextInt(12) == 0 ? " " : "";
    }

    private static String countSign(Pat pat) {
        if (pat.to == NONE && pat.from < 2 && random.nextBoolean()) {
            return pat.from == 0 ? "*" : "+";
        }
        if (pat.from == 0 && pat.to == 1 && random.nextBoolean()) {
            return "?";
        }
        if (pat.from == pat.to && random.nextBoolean()) {
            return "{" + pat.from + "}";
        }
        String zero = random.nextInt(5) == 0 ? "0" : "";
        return "{" + zero + pat.from + blank() + "," + blank() + (pat.to == NONE ? "" : zero + pat.to) + blank() + "}";
    }

    // ---- telling out READINGS ----

    /** All words of a pattern: each letter has its OCCURRENCE and, for each COUNT, its TIME (0: not around). */
    private static List<List<int[]>> derive(Told told, Pat pat, int least) {
        List<List<int[]>> all = new ArrayList<>();
        if (pat.kind == 'a') {
            int[] letter = new int[1 + told.counts.size()];
            letter[0] = pat.number;
            all.add(List.of(letter));
        } else if (pat.kind == '0') {
            all.add(List.of());
        } else if (pat.kind == '|') {
            for (Pat part : pat.parts) {
                all.addAll(derive(told, part, least));
            }
        } else if (pat.kind == ',') {
            all.add(List.of());
            for (Pat part : pat.parts) {
                all = join(all, derive(told, part, least));
            }
        } else if (pat.kind == '*') {
            return deriveTimes(told, pat, least);
        } else {
            List<List<List<int[]>>> parts = new ArrayList<>();
            for (Pat part : pat.parts) {
                parts.add(derive(told, part, least));
            }
            all = anyOrder(parts, 0);
        }
        return bounded(distinct(all));
    }

    private static List<List<int[]>> deriveTimes(Told told, Pat pat, int least) {
        List<List<int[]>> body = derive(told, pat.parts.get(0), least);
        boolean isEmpty = body.removeIf(List::isEmpty);
        int to = pat.to == NONE ? Math.max(pat.from + 2, least) : pat.to;
        int from = isEmpty ? 0 : pat.from;
        List<List<int[]>> all = new ArrayList<>();
        List<List<int[]>> times = new ArrayList<>();
        times.add(List.of());
        for (int time = 0; time <= to; time++) {
            if (time > 0) {
                List<List<int[]>> marked = new ArrayList<>();
                for (List<int[]> word : body) {
                    List<int[]> copy = new ArrayList<>();
                    for (int[] letter : word) {
                        int[] with = letter.clone();
                        with[1 + pat.number] = time;
                        copy.add(with);
                    }
                    marked.add(copy);
                }
                times = join(times, marked);
            }
            if (time >= from) {
                all.addAll(times);
            }
            bounded(all);
        }
        return distinct(all);
    }

    private static List<List<int[]>> anyOrder(List<List<List<int[]>>> parts, int used) {
        List<List<int[]>> all = new ArrayList<>();
        boolean canEnd = true;
        for (int i = 0; i < parts.size(); i++) {
            if ((used >> i & 1) == 0) {
                List<List<int[]>> filled = new ArrayList<>(parts.get(i));
                boolean isEmpty = filled.removeIf(List::isEmpty);
                canEnd = canEnd && isEmpty;
                all.addAll(join(filled, anyOrder(parts, used | 1 << i)));
                bounded(all);
            }
        }
        if (canEnd) {
            all.add(List.of());
        }
        return all;
    }

    private static List<List<int[]>> join(List<List<int[]>> left, List<List<int[]>> right) {
        if ((long) left.size() * right.size() > MOST_DERIVED) {
            throw new TooMany();
        }
        List<List<int[]>> all = new ArrayList<>();
        for (List<int[]> l : left) {
            for (List<int[]> r : right) {
                List<int[]> both = new ArrayList<>(l);
                both.addAll(r);
                all.add(both);
            }
        }
        return all;
    }

    private static List<List<int[]>> bounded(List<List<int[]>> all) {
        if (all.size() > MOST_DERIVED) {
            throw new TooMany();
        }
        return all;
    }

    private static List<List<int[]>> distinct(List<List<int[]>> all) {
        Map<String, List<int[]>> kept = new TreeMap<>();
        for (List<int[]> word : all) {
            StringBuilder key = new StringBuilder();
            for (int[] letter : word) {
                key.append(java.util.Arrays.toString(letter));
            }
            kept.put(key.toString(), word);
        }
        return new ArrayList<>(kept.values());
    }

    private static Readings readings(Told told, int least) {
        Readings readings = new Readings();
        for (List<int[]> word : derive(told, told.root, least)) {
            List<Integer> reading = new ArrayList<>();
            StringBuilder letters = new StringBuilder();
            for (int k = 0; k < word.size(); k++) {
                int by = k == 0 ? NONE : goesOnBy(told, word.get(k - 1), word.get(k));
                reading.add(word.get(k)[0] << 4 | by + 1);
                letters.append((char) ('a' + told.letters.get(word.get(k)[0]).letter));
            }
            readings.words.add(letters.toString());
            readings.all.add(reading);
            for (int k = 0; k < reading.size(); k++) {
                readings.next.computeIfAbsent(reading.subList(0, k), x -> new TreeSet<>()).add(reading.get(k));
            }
        }
        return readings;
    }

    /** The outermost COUNT around both of which the TIME is another one. */
    private static int goesOnBy(Told told, int[] p, int[] q) {
        int by = NONE;
        for (Pat count : told.counts) {
            boolean isAroundBoth = (count.occurrences >> p[0] & 1) != 0 && (count.occurrences >> q[0] & 1) != 0;
            boolean isNew = false;
            for (Pat around = count; around != null; around = around.counted) {
                isNew = isNew || p[1 + around.number] != q[1 + around.number];
            }
            boolean isOuter = by == NONE || told.counts.get(by).counted == count;
            if (isAroundBoth && isNew && isOuter) {
                by = count.number;
            }
        }
        return by;
    }

    // ---- what the READINGS say ----

    private static String spelled(Told told, List<Integer> reading) {
        StringBuilder text = new StringBuilder();
        for (int way : reading) {
            text.append((char) ('a' + told.letters.get(way >> 4).letter));
        }
        return text.toString();
    }

    private static boolean isEndless(Pat pat) {
        boolean is = pat.kind == '*' && pat.to == NONE && pat.occurrences != 0;
        for (Pat part : pat.parts) {
            is = is || isEndless(part);
        }
        return is;
    }

    private static boolean hasEmpty(Told told, Pat pat) {
        for (List<int[]> word : derive(told, pat, 0)) {
            if (word.isEmpty()) {
                return true;
            }
        }
        return false;
    }

    private static void checkRule(ContentRules x, int r, Told told) {
        Readings readings = told.few;
        String best = null;
        int longest = 0;
        int first = 0;
        int last = 0;
        int[] next = new int[16];
        for (List<Integer> reading : readings.all) {
            String word = spelled(told, reading);
            longest = Math.max(longest, word.length());
            if (best == null || isAhead(word, best)) {
                best = word;
            }
            for (int k = 0; k < reading.size(); k++) {
                int occurrence = reading.get(k) >> 4;
                first |= k == 0 ? 1 << occurrence : 0;
                last |= k + 1 == reading.size() ? 1 << occurrence : 0;
                if (k > 0) {
                    next[reading.get(k - 1) >> 4] |= 1 << occurrence;
                }
            }
        }
        int letters = 0;
        for (Pat letter : told.letters) {
            letters |= 1 << letter.letter;
        }
        due("rule 0", x.rule(r, 0), told.name);
        due("rule 1", x.rule(r, 1), told.letters.size());
        due("rule 2", x.rule(r, 2), told.counts.size());
        due("rule 3", x.rule(r, 3), told.anys.size());
        due("rule 4", x.rule(r, 4), readings.words.contains("") ? 1 : 0);
        due("rule 8", x.rule(r, 8), best.length());
        due("rule 9", x.rule(r, 9), isEndless(told.root) ? NONE : longest);
        due("rule 10", x.rule(r, 10), letters);
        for (int k = -1; k <= best.length(); k++) {
            due("shortest " + k, x.shortest(r, k), k < 0 || k == best.length() ? NONE : best.charAt(k) - 'a');
        }
        checkSigns(x, r, told, first, last, next);
        checkConflicts(x, r, told);
    }

    private static boolean isAhead(String one, String two) {
        return one.length() != two.length() ? one.length() < two.length() : one.compareTo(two) < 0;
    }

    private static void checkSigns(ContentRules x, int r, Told told, int first, int last, int[] next) {
        for (Pat letter : told.letters) {
            int i = letter.number;
            Pat near = letter.counted;
            Pat far = near == null ? null : near.counted;
            int anys = 0;
            for (Pat any : told.anys) {
                anys |= (any.occurrences >> i & 1) << any.number;
            }
            due("occurrence 0", x.occurrence(r, i, 0), letter.letter);
            due("occurrence 1", x.occurrence(r, i, 1), first >> i & 1);
            due("occurrence 2", x.occurrence(r, i, 2), last >> i & 1);
            due("occurrence 3 of " + i, x.occurrence(r, i, 3), next[i]);
            due("occurrence 4", x.occurrence(r, i, 4), near == null ? NONE : far == null ? near.number : far.number);
            due("occurrence 5", x.occurrence(r, i, 5), far == null ? NONE : near.number);
            due("occurrence 6", x.occurrence(r, i, 6), anys);
            due("occurrence 7", x.occurrence(r, i, 7), NONE - 1);
        }
        for (Pat count : told.counts) {
            int c = count.number;
            due("counted 0", x.counted(r, c, 0), count.from);
            due("counted 1", x.counted(r, c, 1), count.to);
            due("counted 2", x.counted(r, c, 2), count.counted == null ? NONE : count.counted.number);
            due("counted 3", x.counted(r, c, 3), count.occurrences);
            due("counted 4", x.counted(r, c, 4), hasEmpty(told, count.parts.get(0)) ? 1 : 0);
            due("counted 5", x.counted(r, c, 5), NONE - 1);
        }
        for (Pat any : told.anys) {
            due("any 0", x.any(r, any.number, 0), any.parts.size());
            for (int i = 0; i < 5; i++) {
                due("any part " + i, x.any(r, any.number, 1 + i), i < any.parts.size() ? any.parts.get(i).occurrences : NONE);
            }
        }
        due("no occurrence", x.occurrence(r, told.letters.size(), 0), NONE - 1);
        due("no count", x.counted(r, told.counts.size(), 0), NONE - 1);
        due("no any", x.any(r, told.anys.size(), 0), NONE);
    }

    private static void checkConflicts(ContentRules x, int r, Told told) {
        Set<List<Integer>> conflicts = new HashSet<>();
        boolean isClear = true;
        Shown unsure = null;
        Shown unclear = null;
        for (Map.Entry<List<Integer>, TreeSet<Integer>> entry : told.few.next.entrySet()) {
            List<Integer> ahead = entry.getKey();
            int p = ahead.isEmpty() ? NONE : ahead.get(ahead.size() - 1) >> 4;
            for (int low : entry.getValue()) {
                for (int high : entry.getValue().tailSet(low, false)) {
                    if (told.letters.get(low >> 4).letter == told.letters.get(high >> 4).letter) {
                        conflicts.add(List.of(p, low, high));
                        Shown shown = new Shown(spelled(told, ahead), p, low, high);
                        unsure = shown.isAheadOf(unsure) ? shown : unsure;
                        if (low >> 4 != high >> 4) {
                            isClear = false;
                            unclear = shown.isAheadOf(unclear) ? shown : unclear;
                        }
                    }
                }
            }
        }
        due("rule 5", x.rule(r, 5), isClear ? 1 : 0);
        due("rule 6", x.rule(r, 6), conflicts.isEmpty() ? 1 : 0);
        due("rule 7", x.rule(r, 7), conflicts.size());
        checkWitness(x, r, told, false, unsure);
        checkWitness(x, r, told, true, unclear);
    }

    private record Shown(String ahead, int p, int low, int high) {
        boolean isAheadOf(Shown other) {
            if (other == null || !ahead.equals(other.ahead)) {
                return other == null || isAhead(ahead, other.ahead);
            }
            if (p != other.p) {
                return p < other.p;
            }
            return low != other.low ? low < other.low : high < other.high;
        }
    }

    private static void checkWitness(ContentRules x, int r, Told told, boolean unclear, Shown shown) {
        int[] all = {ContentRules.HIDDEN, ContentRules.HIDDEN, ContentRules.HIDDEN,
            ContentRules.HIDDEN, ContentRules.HIDDEN, ContentRules.HIDDEN};
        String letters = "";
        if (shown != null) {
            all = new int[] {shown.p, shown.low >> 4, (shown.low & 15) - 1, shown.high >> 4, (shown.high & 15) - 1,
                shown.ahead.length()};
            letters = shown.ahead + (char) ('a' + told.letters.get(shown.low >> 4).letter);
        }
        for (int what = 0; what < 6; what++) {
            due("witness " + unclear + " " + what, x.witness(r, unclear, what), all[what]);
        }
        for (int k = -1; k <= letters.length(); k++) {
            boolean is = k >= 0 && k < letters.length();
            due("shown " + unclear + " " + k, x.shown(r, unclear, k), is ? letters.charAt(k) - 'a' : NONE);
        }
    }

    // ---- reading ----

    private static void feed(ContentRules x, String text) {
        x.end(0);
        for (int at = 0; at < text.length(); at += 20) {
            int[] five = new int[5];
            for (int k = 0; k < 20 && at + k < text.length(); k++) {
                five[k / 4] |= text.charAt(at + k) << 24 - 8 * (k % 4);
            }
            x.feed(five[0], five[1], five[2], five[3], five[4]);
        }
    }

    private static void checkReading(ContentRules x, int r, Told told, String word) {
        StringBuilder text = new StringBuilder();
        for (int k = 0; k < word.length(); k++) {
            text.append(blank()).append(word.charAt(k));
        }
        feed(x, text.toString());
        due("reads " + word, x.reads(r), told.many.words.contains(word) ? 1 : 0);
        List<Integer> reading = new ArrayList<>();
        int place = 0;
        boolean goesOn = true;
        while (goesOn && place < word.length()) {
            goesOn = false;
            for (int way : told.many.next.getOrDefault(reading, new TreeSet<>())) {
                if (told.letters.get(way >> 4).letter == word.charAt(place) - 'a' && !goesOn) {
                    List<Integer> more = new ArrayList<>(reading);
                    more.add(way);
                    reading = more;
                    goesOn = true;
                }
            }
            place += goesOn ? 1 : 0;
        }
        int could = 0;
        for (int way : told.many.next.getOrDefault(reading, new TreeSet<>())) {
            could |= 1 << told.letters.get(way >> 4).letter;
        }
        due("read 0", x.read(0), r);
        due("read 1", x.read(1), word.length());
        due("read 2 of " + word, x.read(2), place);
        due("read 3 of " + word, x.read(3), could);
        due("read 4 of " + word, x.read(4), told.many.all.contains(reading) ? 1 : 0);
        for (int i = 0; i < place; i++) {
            due("taken 0 of " + word, x.taken(i, 0), reading.get(i) >> 4);
            due("taken 1 of " + word, x.taken(i, 1), (reading.get(i) & 15) - 1);
        }
        due("taken too far", x.taken(place, 0), ContentRules.HIDDEN);
        checkCounters(x, told, reading, word);
        checkMended(x, told, word);
    }

    /** TIMES and PARTS of any word told out that begins with this READING. */
    private static void checkCounters(ContentRules x, Told told, List<Integer> reading, String word) {
        int last = reading.isEmpty() ? NONE : reading.get(reading.size() - 1) >> 4;
        for (Pat count : told.counts) {
            int time = 0;
            for (int way : reading) {
                int by = (way & 15) - 1;
                boolean isIn = (count.occurrences >> (way >> 4) & 1) != 0;
                boolean isReset = by != NONE && isAround(told.counts.get(by), count);
                time = !isIn ? 0 : time == 0 || isReset ? 1 : by == count.number ? time + 1 : time;
            }
            due("times " + count.number + " of " + word, x.times(count.number), time);
        }
        for (Pat any : told.anys) {
            int parts = 0;
            for (int way : reading) {
                int by = (way & 15) - 1;
                int occurrence = way >> 4;
                boolean isIn = (any.occurrences >> occurrence & 1) != 0;
                boolean isReset = by != NONE && contains(told.counts.get(by), any);
                parts = !isIn || isReset ? 0 : parts;
                for (int i = 0; i < any.parts.size(); i++) {
                    parts |= (any.parts.get(i).occurrences >> occurrence & 1) << i;
                }
            }
            due("parts " + any.number + " of " + word, x.parts(any.number), last == NONE ? 0 : parts);
        }
        due("no times", x.times(told.counts.size()), ContentRules.HIDDEN);
        due("no parts", x.parts(told.anys.size()), ContentRules.HIDDEN);
    }

    private static boolean isAround(Pat outer, Pat count) {
        return outer != count && contains(outer, count);
    }

    private static boolean contains(Pat pat, Pat sought) {
        boolean is = pat == sought;
        for (Pat part : pat.parts) {
            is = is || contains(part, sought);
        }
        return is;
    }

    private static void checkMended(ContentRules x, Told told, String word) {
        int[] mend = mend(told, word);
        for (int what = 0; what < 3; what++) {
            due("mended " + what + " of " + word, x.mended(what), mend[what]);
        }
    }

    private static int[] mend(Told told, String word) {
        Set<String> words = told.many.words;
        TreeSet<Integer> letters = new TreeSet<>();
        for (Pat letter : told.letters) {
            letters.add(letter.letter);
        }
        if (words.contains(word)) {
            return new int[] {0, NONE, NONE};
        }
        for (int i = 0; i < word.length(); i++) {
            if (words.contains(word.substring(0, i) + word.substring(i + 1))) {
                return new int[] {1, i, NONE};
            }
        }
        for (int i = 0; i <= word.length(); i++) {
            for (int letter : letters) {
                if (words.contains(word.substring(0, i) + (char) ('a' + letter) + word.substring(i))) {
                    return new int[] {2, i, letter};
                }
            }
        }
        for (int i = 0; i < word.length(); i++) {
            for (int letter : letters) {
                if (words.contains(word.substring(0, i) + (char) ('a' + letter) + word.substring(i + 1))) {
                    return new int[] {3, i, letter};
                }
            }
        }
        return new int[] {NONE, NONE, NONE};
    }

    private static void checkWords(ContentRules x, int r, Told told) {
        int[] n = new int[5];
        for (String word : told.many.words) {
            if (word.length() < 5) {
                n[word.length()]++;
            }
        }
        for (int k = 0; k < 5; k++) {
            due("words " + k, x.words(r, k), n[k]);
        }
        due("words -1", x.words(r, -1), NONE);
        due("words 5", x.words(r, 5), NONE);
    }

    private static void checkUnlike(ContentRules x, int r, int s, Told one, Told two) {
        List<String> apart = new ArrayList<>();
        for (String word : one.many.words) {
            if (word.length() < 5 && !two.many.words.contains(word)) {
                apart.add(word);
            }
        }
        for (String word : two.many.words) {
            if (word.length() < 5 && !one.many.words.contains(word)) {
                apart.add(word);
            }
        }
        String best = null;
        for (String word : apart) {
            best = best == null || isAhead(word, best) ? word : best;
        }
        due("unlike " + r + " " + s, x.unlike(r, s, NONE), best == null ? NONE : best.length());
        for (int k = 0; k < 5; k++) {
            boolean is = best != null && k < best.length();
            due("unlike " + r + " " + s + " " + k, x.unlike(r, s, k), is ? best.charAt(k) - 'a' : NONE);
        }
    }

    private static String randomWord(Told told) {
        StringBuilder word = new StringBuilder();
        List<String> known = new ArrayList<>(told.many.words);
        known.removeIf(w -> w.length() > 4);
        Collections.sort(known);
        if (!known.isEmpty() && random.nextInt(3) > 0) {
            word.append(known.get(random.nextInt(known.size())));
            int change = random.nextInt(4);
            if (change == 1 && word.length() > 0) {
                word.deleteCharAt(random.nextInt(word.length()));
            } else if (change == 2 && word.length() < 4) {
                word.insert(random.nextInt(word.length() + 1), (char) ('a' + random.nextInt(6)));
            } else if (change == 3 && word.length() > 0) {
                word.setCharAt(random.nextInt(word.length()), (char) ('a' + random.nextInt(6)));
            }
            return word.toString();
        }
        int n = random.nextInt(5);
        for (int k = 0; k < n; k++) {
            word.append((char) ('a' + random.nextInt(5)));
        }
        return word.toString();
    }

    private static boolean told(Told rule) {
        try {
            rule.few = readings(rule, 0);
            rule.many = readings(rule, 6);
            return true;
        } catch (TooMany e) {
            return false;
        }
    }

    private static void checkAll(ContentRules x, List<Told> rules) {
        for (int r = 0; r < rules.size(); r++) {
            checkRule(x, r, rules.get(r));
            if (x.rule(r, 6) == 1) {
                checkWords(x, r, rules.get(r));
                for (int k = 0; k < 4; k++) {
                    checkReading(x, r, rules.get(r), randomWord(rules.get(r)));
                }
            } else {
                due("words unsure", x.words(r, 1), NONE);
            }
            for (int s = 0; s < rules.size(); s++) {
                if (x.rule(r, 6) == 1 && x.rule(s, 6) == 1) {
                    checkUnlike(x, r, s, rules.get(r), rules.get(s));
                } else {
                    due("unlike unsure", x.unlike(r, s, NONE), NONE);
                }
            }
        }
    }

    /** Tells one sign of a rule anew and looks at all answers once more. */
    private static void checkAnew(ContentRules x, List<Told> rules) {
        int r = random.nextInt(rules.size());
        Told rule = rules.get(r);
        if (!rule.counts.isEmpty() && random.nextBoolean()) {
            Pat count = rule.counts.get(random.nextInt(rule.counts.size()));
            int from = random.nextInt(4);
            int to = random.nextInt(3) == 0 ? NONE : Math.max(1, from + random.nextInt(3));
            boolean isSo = count.from == from && count.to == to;
            count.from = from;
            count.to = to;
            if (told(rule)) {
                int got = x.recount(r, count.number, from, to);
                due("recount", got, isSo ? -3 : x.rule(r, 6));
                checkAll(x, rules);
            }
        } else if (!rule.letters.isEmpty()) {
            Pat letter = rule.letters.get(random.nextInt(rule.letters.size()));
            int anew = random.nextInt(5);
            boolean isSo = letter.letter == anew;
            letter.letter = anew;
            if (told(rule)) {
                int got = x.reletter(r, letter.number, anew);
                due("reletter", got, isSo ? -3 : x.rule(r, 6));
                checkAll(x, rules);
            }
        }
    }

    public static void main(String[] args) {
        int seeds = args.length > 0 ? Integer.parseInt(args[0]) : RULE_TEXTS;
        int tried = 0;
        int sure = 0;
        for (int seed = 1; seed <= seeds; seed++) {
            random = new Random(seed);
            List<Told> rules = new ArrayList<>();
            StringBuilder text = new StringBuilder();
            int n = 1 + random.nextInt(3);
            for (int r = 0; r < n; r++) {
                Told rule = tellRule(r * 2 + 1);
                String its = write(rule);
                if (told(rule)) {
                    text.append(rules.isEmpty() ? "" : ";").append(its);
                    rules.add(rule);
                }
            }
            if (rules.isEmpty() || text.length() > 400) {
                continue;
            }
            about = seed + " " + text;
            ContentRules x = new ContentRules();
            feed(x, text.toString());
            due("fault", x.fault(0), NONE);
            int got = x.rules();
            due("rules", got, rules.size());
            if (got != rules.size()) {
                continue;
            }
            tried++;
            checkAll(x, rules);
            checkAnew(x, rules);
            sure += Integer.bitCount(x.count(5));
        }
        System.out.println(tried + " texts (" + sure + " rules SURE), " + asked + " answers");
        System.out.println(wrong == 0 ? "all answers are as due" : wrong + " answers are not as due");
        if (wrong != 0 || tried < seeds / 4 || sure < seeds / 10) {
            System.exit(1);
        }
    }
}
