import java.util.NoSuchElementException;

/** A checker of documents by rules of what each thing holds. */
public final class ContentRules {
    public static final int NONE = -1;
    public static final int HIDDEN = -1000000;

    private static final int NO_SUCH = -2;
    private static final int NO_SUCH_NUMBER = -2;
    private static final int IS_SO = -3;

    private static final int MOST_BYTES = 400;
    private static final int MOST_RULES = 8;
    private static final int MOST_LETTERS = 16;
    private static final int MOST_COUNTS = 8;
    private static final int MOST_LAYERS = 2;
    private static final int MOST_ANYS = 4;
    private static final int MOST_PARTS = 4;
    private static final int MOST_BRACKETS = 8;
    private static final int MOST_TIMES = 12;
    private static final int ALPHABET = 26;
    private static final int MOST_READ = 24;
    private static final int LONGEST_TOLD = 4;
    private static final int MOST_THINGS = 60;
    private static final int MOST_WITHIN = 8;
    private static final int MOST_HELD = 24;

    /** Each of 16 letters stands in two COUNTS at most, of 12 TIMES each. */
    private static final int MOST_SPELLED = 16 * 12 * 12;

    private final int[] tape;
    private int tapeSize;
    private RuleSet told;
    private RuleSet spareRules;
    private Document held;
    private Document spareDocument;
    private final Learner learner;
    private final Ways ways;
    private final Speller speller;
    private final Witness unsureWitness;
    private final Witness unclearWitness;
    private final Walk walk;
    private final Reading lastRead;
    private final Difference difference;
    private int shortestOf;

    public ContentRules() {
        tape = new int[MOST_BYTES];
        tapeSize = 0;
        told = new RuleSet();
        spareRules = new RuleSet();
        held = new Document();
        spareDocument = new Document();
        learner = new Learner();
        ways = new Ways();
        speller = new Speller();
        unsureWitness = new Witness();
        unclearWitness = new Witness();
        walk = new Walk();
        lastRead = new Reading();
        difference = new Difference();
        shortestOf = NONE;
    }

    // ---- the TAPE ----

    public int feed(int a, int b, int c, int d, int e) {
        int more = bytesIn(a) + bytesIn(b) + bytesIn(c) + bytesIn(d) + bytesIn(e);
        if (tapeSize + more > MOST_BYTES) {
            return NONE;
        }
        put(a);
        put(b);
        put(c);
        put(d);
        put(e);
        return tapeSize;
    }

    private static int bytesIn(int number) {
        int n = 0;
        for (int shift = 24; shift >= 0; shift -= 8) {
            if ((number >>> shift & 255) != 0) {
                n++;
            }
        }
        return n;
    }

    private void put(int number) {
        for (int shift = 24; shift >= 0; shift -= 8) {
            int value = number >>> shift & 255;
            if (value != 0 && tapeSize < MOST_BYTES) {
                tape[tapeSize] = value;
                tapeSize++;
            }
        }
    }

    public boolean end(int n) {
        if (n < 0 || n > tapeSize) {
            return false;
        }
        tapeSize = n;
        return true;
    }

    public int fault(int what) {
        if (what == 0) {
            return spareRules.parse(tape, tapeSize);
        }
        if (what == 1) {
            return spareDocument.parse(tape, tapeSize);
        }
        return NO_SUCH;
    }

    public int rules() {
        if (spareRules.parse(tape, tapeSize) != NONE) {
            return NONE;
        }
        RuleSet before = told;
        told = spareRules;
        spareRules = before;
        tapeSize = 0;
        lastRead.forget();
        for (int i = 0; i < told.size; i++) {
            learner.learnRule(told.list[i]);
            ways.study(told.list[i]);
        }
        forgetWhatRulesTold();
        return told.size;
    }

    public int document() {
        if (spareDocument.parse(tape, tapeSize) != NONE) {
            return NONE;
        }
        Document before = held;
        held = spareDocument;
        spareDocument = before;
        tapeSize = 0;
        held.hold(told, walk);
        return held.size;
    }

    private void forgetWhatRulesTold() {
        unsureWitness.forget();
        unclearWitness.forget();
        difference.forget();
        shortestOf = NONE;
        lastRead.mendKnown = false;
        held.hold(told, walk);
    }

    private Rule ruleAt(int number) {
        return number >= 0 && number < told.size ? told.list[number] : null;
    }

    private static int bit(boolean is) {
        return is ? 1 : 0;
    }

    // ---- what a RULE is ----

    public int rule(int rule, int what) throws NoSuchElementException {
        Rule its = ruleAt(rule);
        if (its == null || its.root == null) {
            throw new NoSuchElementException("no such RULE");
        }
        switch (what) {
            case 0: return its.letter;
            case 1: return its.letters;
            case 2: return its.counts;
            case 3: return its.anys;
            case 4: return bit(its.root.empty);
            case 5: return bit(its.clear);
            case 6: return bit(its.sure);
            case 7: return its.conflicts;
            case 8: return its.root.least;
            case 9: return its.root.most;
            case 10: return its.lettersIn(its.root.inside);
            default: throw new NoSuchElementException("no such what");
        }
    }

    public int occurrence(int rule, int i, int what) {
        Rule its = ruleAt(rule);
        if (its == null || its.root == null || i < 0 || i >= its.letters) {
            return NO_SUCH;
        }
        switch (what) {
            case 0: return its.letterOf[i];
            case 1: return its.root.first >> i & 1;
            case 2: return its.root.last >> i & 1;
            case 3: return ways.nextBehind(its, i);
            case 4: return its.outerOf[i];
            case 5: return its.innerOf[i];
            case 6: return its.anysAround(i);
            default: return NO_SUCH;
        }
    }

    public int counted(int rule, int count, int what) {
        Rule its = ruleAt(rule);
        if (its == null || count < 0 || count >= its.counts) {
            return NO_SUCH;
        }
        Node node = its.countNode[count];
        if (node == null || node.child == null) {
            return NO_SUCH;
        }
        switch (what) {
            case 0: return its.from[count];
            case 1: return its.to[count];
            case 2: return Node.numberOf(node.countAround());
            case 3: return node.inside;
            case 4: return bit(node.child.empty);
            default: return NO_SUCH;
        }
    }

    public int any(int rule, int any, int what) {
        Rule its = ruleAt(rule);
        if (its == null || any < 0 || any >= its.anys || its.anyNode[any] == null) {
            return NONE;
        }
        int n = 0;
        for (Node part = its.anyNode[any].child; part != null; part = part.next) {
            n++;
            if (n == what) {
                return part.inside;
            }
        }
        return what == 0 ? n : NONE;
    }

    // ---- what a RULE shows ----

    private Witness witnessOf(int number, boolean unclear) {
        Witness shows = unclear ? unclearWitness : unsureWitness;
        Rule its = ruleAt(number);
        if (its == null) {
            return null;
        }
        if (shows.ruleNumber != number) {
            shows.seek(its, unclear, ways, speller);
            shows.ruleNumber = number;
        }
        return shows.found ? shows : null;
    }

    public int witness(int rule, boolean unclear, int what) {
        Witness shows = witnessOf(rule, unclear);
        if (shows == null) {
            return HIDDEN;
        }
        switch (what) {
            case 0: return shows.ahead;
            case 1: return Ways.occurrenceIn(shows.lower);
            case 2: return Ways.countIn(shows.lower);
            case 3: return Ways.occurrenceIn(shows.higher);
            case 4: return Ways.countIn(shows.higher);
            case 5: return shows.length;
            default: return HIDDEN;
        }
    }

    public int shown(int rule, boolean unclear, int k) {
        Witness shows = witnessOf(rule, unclear);
        if (shows == null || k < 0 || k > shows.length) {
            return NONE;
        }
        if (k == shows.length) {
            return told.list[rule].letterOf[Ways.occurrenceIn(shows.lower)];
        }
        return shows.letters[k];
    }

    public int shortest(int rule, int k) {
        Rule its = ruleAt(rule);
        if (its == null || its.root == null || k < 0 || k >= its.root.least) {
            return NONE;
        }
        if (shortestOf != rule) {
            speller.spellShortest(its);
            shortestOf = rule;
        }
        return speller.shortestLetter(k);
    }

    public int words(int rule, int n) {
        Rule its = ruleAt(rule);
        if (its == null || its.root == null || !its.sure || n < 0 || n > LONGEST_TOLD) {
            return NONE;
        }
        return n == 0 ? bit(its.root.empty) : its.root.readings[n];
    }

    public int unlike(int rule, int other, int k) {
        Rule one = ruleAt(rule);
        Rule two = ruleAt(other);
        if (one == null || two == null || !one.sure || !two.sure || rule == other) {
            return NONE;
        }
        if (!difference.isOf(rule, other)) {
            difference.seek(one, two, walk);
            difference.keep(rule, other);
        }
        if (k == NONE) {
            return difference.length;
        }
        return k >= 0 && k < difference.length ? difference.letters[k] : NONE;
    }

    // ---- reading ----

    public int reads(int rule) {
        Rule its = ruleAt(rule);
        if (its == null || !its.sure) {
            return NONE;
        }
        int wrongByte = Reading.wrongByte(tape, tapeSize);
        if (wrongByte != NONE) {
            return NO_SUCH - wrongByte;
        }
        lastRead.readTape(tape, tapeSize, its, walk);
        lastRead.ruleNumber = rule;
        tapeSize = 0;
        return bit(lastRead.isWord());
    }

    public int read(int what) {
        if (lastRead.ruleNumber == NONE) {
            return NONE;
        }
        switch (what) {
            case 0: return lastRead.ruleNumber;
            case 1: return lastRead.size;
            case 2: return lastRead.place;
            case 3: return lastRead.could;
            case 4: return bit(lastRead.couldEnd);
            default: return NONE;
        }
    }

    public int taken(int i, int what) {
        if (lastRead.ruleNumber == NONE || i < 0 || i >= lastRead.place) {
            return HIDDEN;
        }
        if (what == 0) {
            return lastRead.takenBy[i];
        }
        return what == 1 ? lastRead.goesBy[i] : HIDDEN;
    }

    public int times(int count) {
        if (lastRead.ruleNumber == NONE || count < 0 || count >= lastRead.counts) {
            return HIDDEN;
        }
        return lastRead.timeOf[count];
    }

    public int parts(int any) {
        if (lastRead.ruleNumber == NONE || any < 0 || any >= lastRead.anys) {
            return HIDDEN;
        }
        return lastRead.partsOf[any];
    }

    public int mended(int what) {
        Rule its = ruleAt(lastRead.ruleNumber);
        if (its == null || !its.sure) {
            return NONE;
        }
        if (!lastRead.mendKnown) {
            lastRead.mend(its, walk);
        }
        switch (what) {
            case 0: return lastRead.mendKind;
            case 1: return lastRead.mendPlace;
            case 2: return lastRead.mendLetter;
            default: return NONE;
        }
    }

    // ---- the DOCUMENT ----

    public int thing(int thing, int what) {
        if (thing < 0 || thing >= held.size) {
            return NO_SUCH;
        }
        switch (what) {
            case 0: return held.letter[thing];
            case 1: return held.holds[thing];
            case 2: return held.parent[thing];
            case 3: return held.around[thing];
            case 4: return held.state[thing];
            case 5: return held.place[thing];
            case 6: return held.could[thing];
            case 7: return held.couldEnd[thing];
            default: return NO_SUCH;
        }
    }

    public int wrong(int i) {
        if (held.size == 0) {
            return NONE;
        }
        return i == NONE ? held.wrongThings() : held.wrongThing(i);
    }

    public int message(int thing, int k) {
        if (thing < 0 || thing >= held.size || held.state[thing] != Document.WRONG) {
            return NONE;
        }
        held.tell(thing);
        if (k == NONE) {
            return held.textSize;
        }
        return k >= 0 && k < held.textSize ? held.text[k] : NONE;
    }

    // ---- RULES told anew ----

    public int recount(int rule, int count, int from, int to) {
        Rule its = ruleAt(rule);
        if (its == null || count < 0 || count >= its.counts) {
            return NONE;
        }
        boolean isTo = to == NONE || to >= 1 && to >= from && to <= MOST_TIMES;
        if (from < 0 || from > MOST_TIMES || !isTo) {
            return NO_SUCH_NUMBER;
        }
        if (its.from[count] == from && its.to[count] == to) {
            return IS_SO;
        }
        its.from[count] = from;
        its.to[count] = to;
        return toldAnew(its);
    }

    public int reletter(int rule, int i, int letter) {
        Rule its = ruleAt(rule);
        if (its == null || i < 0 || i >= its.letters) {
            return NONE;
        }
        if (letter < 0 || letter >= ALPHABET) {
            return NO_SUCH_NUMBER;
        }
        if (its.letterOf[i] == letter) {
            return IS_SO;
        }
        its.letterOf[i] = letter;
        return toldAnew(its);
    }

    private int toldAnew(Rule its) {
        learner.learnRule(its);
        ways.study(its);
        forgetWhatRulesTold();
        return bit(its.sure);
    }

    public int count(int what) {
        switch (what) {
            case 0: return tapeSize;
            case 1: return told.size;
            case 2: return held.size;
            case 3: return held.wrongThings();
            case 4: return told.clearOnes();
            case 5: return told.sureOnes();
            case 6: return held.fullest();
            case 7: return held.deepest();
            default: return NONE;
        }
    }

    /** One node of a PATTERN, and what is known of its WORDS. */
    private static final class Node {
        static final int LETTER = 0;
        static final int NOTHING = 1;
        static final int ROW = 2;
        static final int CHOICE = 3;
        static final int COUNTED = 4;
        static final int ANY_ORDER = 5;

        int kind;
        /** Which OCCURRENCE, COUNT or ANY of its RULE it is. */
        int number;
        /** How many stand ahead of it in its parent. */
        int place;
        /** The most COUNTS around one letter in it. */
        int layers;
        Node parent = null;
        Node child = null;
        Node tail = null;
        Node next = null;

        boolean empty;
        int first;
        int last;
        int inside;
        /** Letters of the shortest WORD. */
        int least;
        /** Letters of the longest WORD (NONE: without end). */
        int most;
        /** PARTS of an ANY that can't be left out (bits). */
        int mustBe;
        /** How many READINGS of 1 .. 4 letters there are; the empty WORD isn't among them. */
        final int[] readings = new int[LONGEST_TOLD + 1];

        void startAnew(int itsKind, int itsNumber) {
            kind = itsKind;
            number = itsNumber;
            place = 0;
            layers = 0;
            parent = null;
            child = null;
            tail = null;
            next = null;
        }

        void append(Node part) {
            part.parent = this;
            if (tail == null) {
                child = part;
            } else {
                tail.next = part;
                part.place = tail.place + 1;
            }
            tail = part;
            layers = Math.max(layers, part.layers);
        }

        Node countAround() {
            Node up = parent;
            while (up != null && up.kind != COUNTED) {
                up = up.parent;
            }
            return up;
        }

        static int numberOf(Node node) {
            return node == null ? NONE : node.number;
        }
    }

    /** One RULE: its PATTERN's root and its numbered signs. */
    private static final class Rule {
        int letter;
        Node root = null;
        int letters;
        int counts;
        int anys;
        final int[] letterOf = new int[MOST_LETTERS];
        final Node[] leafOf = new Node[MOST_LETTERS];
        final int[] outerOf = new int[MOST_LETTERS];
        final int[] innerOf = new int[MOST_LETTERS];
        final int[] from = new int[MOST_COUNTS];
        final int[] to = new int[MOST_COUNTS];
        /** With how few TIMES a COUNT that has begun can be left behind. */
        final int[] fewest = new int[MOST_COUNTS];
        final Node[] countNode = new Node[MOST_COUNTS];
        final Node[] anyNode = new Node[MOST_ANYS];
        int conflicts;
        boolean clear;
        boolean sure;

        void startAnew(int itsLetter) {
            letter = itsLetter;
            root = null;
            letters = 0;
            counts = 0;
            anys = 0;
        }

        int lettersIn(int occurrences) {
            int bits = 0;
            for (int i = 0; i < letters; i++) {
                if ((occurrences >> i & 1) != 0) {
                    bits |= 1 << letterOf[i];
                }
            }
            return bits;
        }

        int lettersInAll() {
            return lettersIn((1 << MOST_LETTERS) - 1);
        }

        int occurrencesOf(int wanted) {
            int bits = 0;
            for (int i = 0; i < letters; i++) {
                if (letterOf[i] == wanted) {
                    bits |= 1 << i;
                }
            }
            return bits;
        }

        int anysAround(int i) {
            int bits = 0;
            for (Node node = leafOf[i]; node != null; node = node.parent) {
                if (node.kind == Node.ANY_ORDER) {
                    bits |= 1 << node.number;
                }
            }
            return bits;
        }
    }

    /** The RULES of one TEXT; a method that meets a FAULT notes it and answers null or false. */
    private static final class RuleSet {
        private static final int NO_SIGN = -1;

        final Rule[] list;
        int size;

        /** Each node has a byte of the TEXT of its own (a sign, or the | or , that made it). */
        private final Node[] pool;
        private int nodes;
        private int[] bytes;
        private int length;
        private int at;
        private int faultAt;
        private Rule rule;

        RuleSet() {
            list = new Rule[MOST_RULES];
            for (int i = 0; i < MOST_RULES; i++) {
                list[i] = new Rule();
            }
            size = 0;
            pool = new Node[MOST_BYTES];
            bytes = new int[0];
            rule = list[0];
        }

        int numberFor(int letter) {
            for (int i = 0; i < size; i++) {
                if (list[i].letter == letter) {
                    return i;
                }
            }
            return NONE;
        }

        int clearOnes() {
            int bits = 0;
            for (int i = 0; i < size; i++) {
                bits |= bit(list[i].clear) << i;
            }
            return bits;
        }

        int sureOnes() {
            int bits = 0;
            for (int i = 0; i < size; i++) {
                bits |= bit(list[i].sure) << i;
            }
            return bits;
        }

        /** The FAULT, or NONE: then the RULES stand here. */
        int parse(int[] tape, int tapeSize) {
            bytes = tape;
            length = tapeSize;
            at = 0;
            faultAt = NONE;
            nodes = 0;
            size = 0;
            for (int n = 0; n < MOST_RULES; n++) {
                rule = list[n];
                if (!parseRule()) {
                    return faultAt;
                }
                size = n + 1;
                int sign = sign();
                if (sign == NO_SIGN) {
                    return NONE;
                }
                if (sign != ';' || size == MOST_RULES) {
                    return at;
                }
                at++;
            }
            return at;
        }

        /** The next sign behind blanks, left where it is. */
        private int sign() {
            while (at < length && bytes[at] == ' ') {
                at++;
            }
            return at < length ? bytes[at] : NO_SIGN;
        }

        private boolean fails() {
            faultAt = at;
            return false;
        }

        private Node noNode() {
            faultAt = at;
            return null;
        }

        private Node make(int kind, int number) {
            if (nodes >= MOST_BYTES) {
                return noNode();
            }
            if (pool[nodes] == null) {
                pool[nodes] = new Node();
            }
            Node node = pool[nodes];
            nodes++;
            node.startAnew(kind, number);
            return node;
        }

        private static boolean isLetter(int sign) {
            return sign >= 'a' && sign <= 'z';
        }

        private static boolean isDigit(int sign) {
            return sign >= '0' && sign <= '9';
        }

        private boolean parseRule() {
            int sign = sign();
            if (!isLetter(sign) || numberFor(sign - 'a') != NONE) {
                return fails();
            }
            rule.startAnew(sign - 'a');
            at++;
            if (sign() != '=') {
                return fails();
            }
            at++;
            rule.root = pattern(0);
            return rule.root != null;
        }

        private Node pattern(int brackets) {
            return chain(Node.CHOICE, '|', brackets);
        }

        /** What stands between such signs; one alone needs no node of its own. */
        private Node chain(int kind, int between, int brackets) {
            Node begin = link(kind, brackets);
            if (begin == null || sign() != between) {
                return begin;
            }
            Node whole = make(kind, NONE);
            if (whole == null) {
                return null;
            }
            whole.append(begin);
            for (int n = 0; n < MOST_BYTES && sign() == between; n++) {
                at++;
                Node part = link(kind, brackets);
                if (part == null) {
                    return null;
                }
                whole.append(part);
            }
            return whole;
        }

        private Node link(int kind, int brackets) {
            return kind == Node.CHOICE ? chain(Node.ROW, ',', brackets) : unit(brackets);
        }

        private Node unit(int brackets) {
            Node node = atom(brackets);
            if (node == null) {
                return null;
            }
            int sign = sign();
            if (sign != '?' && sign != '*' && sign != '+' && sign != '{') {
                return node;
            }
            if (node.layers >= MOST_LAYERS || rule.counts >= MOST_COUNTS) {
                return noNode();
            }
            Node whole = make(Node.COUNTED, rule.counts);
            if (whole == null) {
                return null;
            }
            whole.append(node);
            whole.layers++;
            rule.countNode[rule.counts] = whole;
            rule.counts++;
            at++;
            return amounts(sign, whole.number) ? whole : null;
        }

        private boolean amounts(int sign, int count) {
            if (sign == '{') {
                return braces(count);
            }
            rule.from[count] = sign == '+' ? 1 : 0;
            rule.to[count] = sign == '?' ? 1 : NONE;
            return true;
        }

        private boolean braces(int count) {
            int from = amount(0);
            if (from == NONE) {
                return false;
            }
            int to = from;
            boolean isRange = sign() == ',';
            if (isRange) {
                at++;
                to = NONE;
                if (sign() != '}') {
                    to = amount(Math.max(from, 1));
                    if (to == NONE) {
                        return false;
                    }
                }
            }
            // The first N is the last one, too, if no comma came: only here is a 0 too little.
            if (sign() != '}' || !isRange && from < 1) {
                return fails();
            }
            at++;
            rule.from[count] = from;
            rule.to[count] = to;
            return true;
        }

        /**
         * One N, or NONE behind a FAULT. One digit that is too little waits for another right behind
         * it: whatever else stands there, a blank too, ends the N, so that byte is the FAULT.
         */
        private int amount(int least) {
            int sign = sign();
            if (!isDigit(sign) || !canBegin(sign - '0', least)) {
                faultAt = at;
                return NONE;
            }
            int value = sign - '0';
            at++;
            boolean isOfTwo = at < length && isDigit(bytes[at]);
            if (isOfTwo) {
                value = value * 10 + bytes[at] - '0';
            }
            if (value > MOST_TIMES || value < least) {
                faultAt = at;
                return NONE;
            }
            if (isOfTwo) {
                at++;
            }
            return value;
        }

        /** Behind 0 comes a 9 at most, behind 1 a 2; nothing behind others. */
        private static boolean canBegin(int digit, int least) {
            return digit >= least || digit == 0 && least <= 9 || digit == 1;
        }

        private Node atom(int brackets) {
            int sign = sign();
            if (isLetter(sign)) {
                return leaf(sign - 'a');
            }
            if (sign == '0') {
                at++;
                return make(Node.NOTHING, NONE);
            }
            if (brackets >= MOST_BRACKETS || sign != '(' && sign != '[') {
                return noNode();
            }
            return sign == '(' ? bracket(brackets) : anyOrder(brackets);
        }

        private Node leaf(int letter) {
            if (rule.letters >= MOST_LETTERS) {
                return noNode();
            }
            Node node = make(Node.LETTER, rule.letters);
            rule.letterOf[rule.letters] = letter;
            rule.leafOf[rule.letters] = node;
            rule.letters++;
            at++;
            return node;
        }

        private Node bracket(int brackets) {
            at++;
            Node node = pattern(brackets + 1);
            if (node == null) {
                return null;
            }
            if (sign() != ')') {
                return noNode();
            }
            at++;
            return node;
        }

        private Node anyOrder(int brackets) {
            if (rule.anys >= MOST_ANYS) {
                return noNode();
            }
            Node whole = make(Node.ANY_ORDER, rule.anys);
            if (whole == null) {
                return null;
            }
            rule.anyNode[rule.anys] = whole;
            rule.anys++;
            for (int n = 1; n <= MOST_PARTS; n++) {
                at++;
                Node part = pattern(brackets + 1);
                if (part == null) {
                    return null;
                }
                whole.append(part);
                int sign = sign();
                if (sign == ']' && n >= 2) {
                    at++;
                    return whole;
                }
                if (sign != '&' || n == MOST_PARTS) {
                    return noNode();
                }
            }
            return noNode();
        }
    }

    /** Finds out what is known of the WORDS of each node, from the leaves up. */
    private static final class Learner {
        /** Brackets are 8 deep, COUNTS 2, ANYS 4; each level of brackets adds a CHOICE and a ROW. */
        private static final int MOST_DEPTH = 40;
        private static final int LENGTHS = LONGEST_TOLD + 1;

        /** Rows of numbers of READINGS by their lengths. */
        private final int[] rows = new int[(MOST_PARTS + 1) * LENGTHS];

        void learnRule(Rule rule) {
            if (rule.root == null) {
                return;
            }
            learn(rule, rule.root, 0);
            for (int i = 0; i < rule.counts; i++) {
                Node node = rule.countNode[i];
                boolean isOneEnough = rule.from[i] < 1 || node != null && node.child != null && node.child.empty;
                rule.fewest[i] = isOneEnough ? 1 : rule.from[i];
            }
            for (int i = 0; i < rule.letters; i++) {
                Node near = rule.leafOf[i] == null ? null : rule.leafOf[i].countAround();
                Node far = near == null ? null : near.countAround();
                rule.outerOf[i] = Node.numberOf(far == null ? near : far);
                rule.innerOf[i] = far == null ? NONE : near.number;
            }
        }

        private void learn(Rule rule, Node node, int depth) {
            if (depth > MOST_DEPTH) {
                return;
            }
            for (Node part = node.child; part != null; part = part.next) {
                learn(rule, part, depth + 1);
            }
            gather(node);
            switch (node.kind) {
                case Node.LETTER: learnLetter(node); break;
                case Node.NOTHING: learnNothing(node); break;
                case Node.ROW: learnRow(node); break;
                case Node.CHOICE: learnChoice(node); break;
                case Node.COUNTED: learnCounted(node, rule.from[node.number], rule.to[node.number]); break;
                default: learnAny(node); break;
            }
        }

        /** What holds of all kinds of which each part can be first and last. */
        private void gather(Node node) {
            node.first = 0;
            node.last = 0;
            node.inside = 0;
            for (Node part = node.child; part != null; part = part.next) {
                node.first |= part.first;
                node.last |= part.last;
                node.inside |= part.inside;
            }
            for (int n = 0; n < LENGTHS; n++) {
                node.readings[n] = 0;
            }
        }

        private void learnLetter(Node node) {
            node.first = 1 << node.number;
            node.last = node.first;
            node.inside = node.first;
            node.empty = false;
            node.least = 1;
            node.most = 1;
            node.readings[1] = 1;
        }

        private void learnNothing(Node node) {
            node.empty = true;
            node.least = 0;
            node.most = 0;
        }

        private void learnRow(Node node) {
            boolean isBegin = true;
            node.first = 0;
            node.last = 0;
            startRow(0);
            for (Node part = node.child; part != null; part = part.next) {
                if (isBegin) {
                    node.first |= part.first;
                }
                isBegin = isBegin && part.empty;
                node.last = part.empty ? node.last | part.last : part.last;
                multiply(part, part.empty);
            }
            addRow(node, 0, 1);
            learnAllTogether(node);
        }

        /** Emptiness and lengths, where WORDS of all the parts make up the WORD. */
        private void learnAllTogether(Node node) {
            boolean isEmpty = true;
            int sum = 0;
            int longest = 0;
            for (Node part = node.child; part != null; part = part.next) {
                isEmpty = isEmpty && part.empty;
                sum += part.least;
                longest = longest == NONE || part.most == NONE ? NONE : longest + part.most;
            }
            node.empty = isEmpty;
            node.least = sum;
            node.most = longest;
        }

        private void learnChoice(Node node) {
            boolean isEmpty = false;
            int fewest = NONE;
            int longest = 0;
            for (Node part = node.child; part != null; part = part.next) {
                isEmpty = isEmpty || part.empty;
                fewest = fewest == NONE ? part.least : Math.min(fewest, part.least);
                longest = longest == NONE || part.most == NONE ? NONE : Math.max(longest, part.most);
                for (int n = 1; n < LENGTHS; n++) {
                    node.readings[n] += part.readings[n];
                }
            }
            node.empty = isEmpty;
            node.least = fewest;
            node.most = longest;
        }

        private void learnCounted(Node node, int from, int to) {
            Node body = node.child;
            if (body == null) {
                return;
            }
            int fewest = body.empty || from < 1 ? 1 : from;
            node.empty = from == 0 || body.empty;
            node.least = node.empty ? 0 : body.least * fewest;
            if (body.most == 0) {
                node.most = 0;
            } else {
                node.most = to == NONE || body.most == NONE ? NONE : body.most * to;
            }
            startRow(0);
            for (int time = 1; time < LENGTHS && (to == NONE || time <= to); time++) {
                multiply(body, false);
                if (time >= fewest) {
                    addRow(node, 0, 1);
                }
            }
        }

        /** Row i tells of i PARTS taken as they stand; they can be taken in i! orders. */
        private void learnAny(Node node) {
            node.mustBe = 0;
            for (int i = 1; i <= MOST_PARTS; i++) {
                clearRow(i);
            }
            startRow(0);
            for (Node part = node.child; part != null; part = part.next) {
                if (!part.empty) {
                    node.mustBe |= 1 << part.place;
                }
                for (int i = MOST_PARTS; i >= 0; i--) {
                    if (!part.empty) {
                        clearRow(i);
                    }
                    if (i > 0) {
                        addProduct(i, i - 1, part);
                    }
                }
            }
            int orders = 1;
            for (int i = 1; i <= MOST_PARTS; i++) {
                orders *= i;
                addRow(node, i, orders);
            }
            learnAllTogether(node);
        }

        private void clearRow(int row) {
            for (int n = 0; n < LENGTHS; n++) {
                rows[row * LENGTHS + n] = 0;
            }
        }

        private void startRow(int row) {
            clearRow(row);
            rows[row * LENGTHS] = 1;
        }

        /** Row 0, from the longest down, so that what is still needed isn't written over. */
        private void multiply(Node part, boolean orNothing) {
            for (int n = LENGTHS - 1; n >= 0; n--) {
                int sum = orNothing ? rows[n] : 0;
                for (int k = 1; k <= n; k++) {
                    sum += rows[n - k] * part.readings[k];
                }
                rows[n] = sum;
            }
        }

        private void addProduct(int row, int by, Node part) {
            for (int n = 1; n < LENGTHS; n++) {
                for (int k = 1; k <= n; k++) {
                    rows[row * LENGTHS + n] += rows[by * LENGTHS + n - k] * part.readings[k];
                }
            }
        }

        private void addRow(Node node, int row, int times) {
            for (int n = 1; n < LENGTHS; n++) {
                node.readings[n] += rows[row * LENGTHS + n] * times;
            }
        }
    }

    /**
     * The WAYS on behind one OCCURRENCE, each with what must be so for it.
     * TIMES and PARTS around one OCCURRENCE can be had in all combinations, so what
     * two WAYS ask for together can be had if no single TIME or PART forbids it.
     */
    private static final class Ways {
        private static final int MOST_WAYS = MOST_LETTERS * (MOST_LAYERS + 1);

        /** Codes rise as WAYS do: by OCCURRENCE, then by COUNT, none first. */
        private final int[] code = new int[MOST_WAYS];
        /** COUNTS that must have had TIMES enough (bits; those of which one is enough are left out). */
        private final int[] enough = new int[MOST_WAYS];
        /** PARTS that must be over (bits 4 * ANY + PART). */
        private final int[] over = new int[MOST_WAYS];
        /** PARTS that must not have begun (likewise). */
        private final int[] ahead = new int[MOST_WAYS];
        int size;

        private int enoughNow;
        private int overNow;

        static int occurrenceIn(int code) {
            return code >> 4;
        }

        static int countIn(int code) {
            return (code & 15) - 1;
        }

        void list(Rule rule, int behind) {
            size = 0;
            enoughNow = 0;
            overNow = 0;
            if (behind == NONE) {
                put(rule.root == null ? 0 : rule.root.first, NONE, 0);
                return;
            }
            boolean goesOn = true;
            for (Node node = rule.leafOf[behind]; node != null && goesOn; node = node.parent) {
                goesOn = node.parent != null && leave(rule, node, node.parent);
            }
        }

        /** Puts the WAYS from the end of a node within its parent; tells whether that can end, too. */
        private boolean leave(Rule rule, Node node, Node up) {
            switch (up.kind) {
                case Node.ROW:
                    return leaveInRow(node);
                case Node.ANY_ORDER:
                    leaveInAny(node, up);
                    return true;
                case Node.COUNTED:
                    if (rule.to[up.number] != 1) {
                        put(node.first, up.number, 0);
                    }
                    if (rule.fewest[up.number] > 1) {
                        enoughNow |= 1 << up.number;
                    }
                    return true;
                default:
                    return true;
            }
        }

        private boolean leaveInRow(Node node) {
            for (Node part = node.next; part != null; part = part.next) {
                put(part.first, NONE, 0);
                if (!part.empty) {
                    return false;
                }
            }
            return true;
        }

        private void leaveInAny(Node node, Node up) {
            int shift = MOST_PARTS * up.number;
            for (Node part = up.child; part != null; part = part.next) {
                if (part != node) {
                    put(part.first, NONE, 1 << shift + part.place);
                }
            }
            overNow |= up.mustBe << shift;
        }

        private void put(int occurrences, int by, int mustBeAhead) {
            for (int i = 0; i < MOST_LETTERS && size < MOST_WAYS; i++) {
                if ((occurrences >> i & 1) != 0) {
                    code[size] = i << 4 | by + 1;
                    enough[size] = enoughNow;
                    over[size] = overNow;
                    ahead[size] = mustBeAhead;
                    size++;
                }
            }
        }

        int nextBehind(Rule rule, int i) {
            list(rule, i);
            int bits = 0;
            for (int way = 0; way < size; way++) {
                bits |= 1 << occurrenceIn(code[way]);
            }
            return bits;
        }

        /** Whether two listed WAYS can be had at once for one letter. */
        boolean clash(Rule rule, int one, int two) {
            return rule.letterOf[occurrenceIn(code[one])] == rule.letterOf[occurrenceIn(code[two])]
                    && ((over[one] | over[two]) & (ahead[one] | ahead[two])) == 0
                    && hasTimeLeft(rule, countIn(code[one]), enough[two])
                    && hasTimeLeft(rule, countIn(code[two]), enough[one]);
        }

        private static boolean hasTimeLeft(Rule rule, int count, int enoughOf) {
            return count == NONE || (enoughOf >> count & 1) == 0
                    || rule.to[count] == NONE || rule.from[count] < rule.to[count];
        }

        boolean isUnlike(int one, int two) {
            return occurrenceIn(code[one]) != occurrenceIn(code[two]);
        }

        int enoughOf(int one, int two) {
            return enough[one] | enough[two];
        }

        int overOf(int one, int two) {
            return over[one] | over[two];
        }

        int lowerOf(int one, int two) {
            return Math.min(code[one], code[two]);
        }

        int higherOf(int one, int two) {
            return Math.max(code[one], code[two]);
        }

        void study(Rule rule) {
            rule.conflicts = 0;
            rule.clear = true;
            for (int behind = NONE; behind < rule.letters; behind++) {
                list(rule, behind);
                for (int two = 1; two < size; two++) {
                    for (int one = 0; one < two; one++) {
                        if (clash(rule, one, two)) {
                            rule.conflicts++;
                            rule.clear = rule.clear && !isUnlike(one, two);
                        }
                    }
                }
            }
            rule.sure = rule.conflicts == 0;
        }
    }

    /** Spells shortest letters, of several the first by letters. */
    private static final class Speller {
        private static final int MOST_DEPTH = 40;
        /** Candidates stand behind what is spelled; other OCCURRENCES make them, so there is room. */
        private static final int ROOM = 4 * MOST_SPELLED;
        private static final int LENGTH_BITS = 16;

        final int[] letters = new int[ROOM];
        int size;
        private final int[] shortestWord = new int[MOST_SPELLED];
        private final Node[] path = new Node[MOST_DEPTH];
        private Rule rule = new Rule();

        void spellShortest(Rule its) {
            rule = its;
            size = 0;
            if (its.root != null) {
                spell(its.root, 0);
            }
            for (int k = 0; k < size && k < MOST_SPELLED; k++) {
                shortestWord[k] = letters[k];
            }
        }

        int shortestLetter(int k) {
            return k >= 0 && k < MOST_SPELLED ? shortestWord[k] : NONE;
        }

        /** How many letters spellUpTo spells. */
        int lengthUpTo(Rule its, int occurrence, int enough, int over) {
            if (occurrence == NONE) {
                return 0;
            }
            int length = 1;
            for (Node node = its.leafOf[occurrence]; node != null && node.parent != null; node = node.parent) {
                Node up = node.parent;
                if (up.kind == Node.ROW) {
                    length += neededAhead(node, up);
                } else if (up.kind == Node.COUNTED && (enough >> up.number & 1) != 0) {
                    length += (its.from[up.number] - 1) * node.least;
                } else if (up.kind == Node.ANY_ORDER) {
                    length += neededIn(up, othersOver(node, up, over));
                }
            }
            return length;
        }

        private static int neededAhead(Node node, Node up) {
            int length = 0;
            for (Node part = up.child; part != null && part != node; part = part.next) {
                length += part.least;
            }
            return length;
        }

        private static int othersOver(Node node, Node up, int over) {
            return over >> MOST_PARTS * up.number & ~(1 << node.place);
        }

        private static int neededIn(Node any, int places) {
            int length = 0;
            for (Node part = any.child; part != null; part = part.next) {
                if ((places >> part.place & 1) != 0) {
                    length += part.least;
                }
            }
            return length;
        }

        /** The letters to an OCCURRENCE with TIMES enough of these COUNTS and these PARTS over. */
        void spellUpTo(Rule its, int occurrence, int enough, int over) {
            rule = its;
            size = 0;
            if (occurrence == NONE) {
                return;
            }
            int depth = 0;
            for (Node node = its.leafOf[occurrence]; node != null && depth < MOST_DEPTH; node = node.parent) {
                path[depth] = node;
                depth++;
            }
            for (int i = depth - 1; i > 0; i--) {
                Node up = path[i];
                Node node = path[i - 1];
                if (up.kind == Node.ROW) {
                    spellRow(up, node, 0);
                } else if (up.kind == Node.COUNTED && (enough >> up.number & 1) != 0) {
                    spellTimes(node, its.from[up.number] - 1, 0);
                } else if (up.kind == Node.ANY_ORDER) {
                    spellParts(up, othersOver(node, up, over), 0);
                }
            }
            write(its.letterOf[occurrence]);
        }

        private void write(int letter) {
            if (size < ROOM) {
                letters[size] = letter;
                size++;
            }
        }

        /** The shortest WORD of a node. */
        private void spell(Node node, int depth) {
            if (depth > MOST_DEPTH || node.empty) {
                return;
            }
            if (node.kind == Node.LETTER) {
                write(rule.letterOf[node.number]);
            } else if (node.kind == Node.COUNTED) {
                spellTimes(node.child, rule.fewest[node.number], depth + 1);
            } else if (node.kind == Node.CHOICE) {
                spellBest(node, depth + 1);
            } else if (node.kind == Node.ROW) {
                spellRow(node, null, depth + 1);
            } else {
                spellParts(node, node.mustBe, depth + 1);
            }
        }

        private void spellRow(Node row, Node until, int depth) {
            for (Node part = row.child; part != null && part != until; part = part.next) {
                spell(part, depth);
            }
        }

        private void spellTimes(Node node, int times, int depth) {
            if (node == null || times < 1) {
                return;
            }
            int begin = size;
            spell(node, depth);
            int length = size - begin;
            for (int k = 0; k < length * (times - 1) && size < ROOM; k++) {
                write(letters[begin + k]);
            }
        }

        /** Of parts that are as short as can be the first by letters. */
        private void spellBest(Node node, int depth) {
            int begin = size;
            for (Node part = node.child; part != null; part = part.next) {
                if (part.least == node.least) {
                    int candidate = size;
                    spell(part, depth);
                    if (candidate > begin) {
                        keepFirst(begin, candidate);
                    }
                }
            }
        }

        private void keepFirst(int begin, int candidate) {
            int length = size - candidate;
            int k = 0;
            while (k < length && letters[begin + k] == letters[candidate + k]) {
                k++;
            }
            if (k < length && letters[candidate + k] < letters[begin + k]) {
                System.arraycopy(letters, candidate, letters, begin, length);
            }
            size = candidate;
        }

        /** Words in any order are first by letters if none does better behind its neighbour. */
        private void spellParts(Node any, int places, int depth) {
            long lengths = 0;
            int n = 0;
            for (Node part = any.child; part != null; part = part.next) {
                if ((places >> part.place & 1) != 0) {
                    int begin = size;
                    spell(part, depth);
                    lengths = sortIn(begin, lengths, n);
                    n++;
                }
            }
        }

        /** Moves the last word ahead of those that do better behind it; answers all lengths as they stand. */
        private long sortIn(int begin, long lengths, int n) {
            int length = size - begin;
            long sorted = lengths;
            int place = begin;
            for (int i = n; i > 0; i--) {
                int before = (int) (sorted >> LENGTH_BITS * (i - 1) & 65535);
                if (!isBetterSwapped(place - before, before, length)) {
                    return withLength(sorted, i, length);
                }
                turn(place - before, place);
                turn(place, place + length);
                turn(place - before, place + length);
                place -= before;
                sorted = withLength(sorted, i, before);
            }
            return withLength(sorted, 0, length);
        }

        private static long withLength(long lengths, int i, int length) {
            long others = lengths & ~(65535L << LENGTH_BITS * i);
            return others | (long) length << LENGTH_BITS * i;
        }

        private boolean isBetterSwapped(int begin, int left, int right) {
            for (int k = 0; k < left + right; k++) {
                int asIs = letters[begin + k];
                int swapped = letters[k < right ? begin + left + k : begin + k - right];
                if (asIs != swapped) {
                    return swapped < asIs;
                }
            }
            return false;
        }

        private void turn(int begin, int end) {
            for (int low = begin, high = end - 1; low < high; low++, high--) {
                int kept = letters[low];
                letters[low] = letters[high];
                letters[high] = kept;
            }
        }
    }

    /** The WITNESS of a RULE that isn't SURE, or isn't CLEAR. */
    private static final class Witness {
        int ruleNumber = NONE;
        boolean found;
        int ahead;
        int lower;
        int higher;
        int length;
        final int[] letters = new int[MOST_SPELLED];

        /** How the letters weighed last stand to those kept: below 0 better, 0 alike, above 0 worse. */
        private int weight;
        private boolean isWeighed;
        private int weighedBehind;
        private int weighedEnough;
        private int weighedOver;

        void forget() {
            ruleNumber = NONE;
        }

        void seek(Rule rule, boolean unclear, Ways ways, Speller speller) {
            found = false;
            isWeighed = false;
            if (unclear ? rule.clear : rule.sure) {
                return;
            }
            for (int behind = NONE; behind < rule.letters; behind++) {
                ways.list(rule, behind);
                for (int two = 1; two < ways.size; two++) {
                    for (int one = 0; one < two; one++) {
                        if (ways.clash(rule, one, two) && (!unclear || ways.isUnlike(one, two))) {
                            weigh(rule, behind, ways.enoughOf(one, two), ways.overOf(one, two), speller);
                            offer(behind, ways.lowerOf(one, two), ways.higherOf(one, two));
                        }
                    }
                }
            }
        }

        private void weigh(Rule rule, int behind, int enough, int over, Speller speller) {
            boolean isSame = weighedBehind == behind && weighedEnough == enough && weighedOver == over;
            if (isWeighed && isSame) {
                // What was better is kept by now.
                weight = Math.max(weight, 0);
                return;
            }
            isWeighed = true;
            weighedBehind = behind;
            weighedEnough = enough;
            weighedOver = over;
            int its = speller.lengthUpTo(rule, behind, enough, over);
            if (found && its > length) {
                weight = 1;
                return;
            }
            speller.spellUpTo(rule, behind, enough, over);
            weight = found && its == length ? compare(speller) : -1;
            if (weight < 0) {
                keep(speller);
            }
        }

        private int compare(Speller speller) {
            for (int k = 0; k < length && k < speller.size; k++) {
                if (speller.letters[k] != letters[k]) {
                    return speller.letters[k] < letters[k] ? -1 : 1;
                }
            }
            return 0;
        }

        private void keep(Speller speller) {
            length = Math.min(speller.size, MOST_SPELLED);
            for (int k = 0; k < length; k++) {
                letters[k] = speller.letters[k];
            }
        }

        private void offer(int behind, int low, int high) {
            boolean isLower = behind == ahead && (low < lower || low == lower && high < higher);
            if (weight < 0 || weight == 0 && isLower) {
                found = true;
                ahead = behind;
                lower = low;
                higher = high;
            }
        }
    }

    /** Reads letters by a RULE that is SURE: one OCCURRENCE, and counters around it. */
    private static final class Walk {
        private static final int END = 1 << MOST_LETTERS;

        private Rule rule = new Rule();
        /** The OCCURRENCE that took the last letter, and by which COUNT. */
        int last = NONE;
        int by = NONE;
        private final int[] time = new int[MOST_COUNTS];
        private final int[] begun = new int[MOST_ANYS];

        private int hit;
        private int hitBy;
        private Node hitWithin = null;

        void begin(Rule its) {
            rule = its;
            last = NONE;
            by = NONE;
        }

        /** Of wanted OCCURRENCES those that can take a letter now (bits), and END, if it can end. */
        private int look(int wanted) {
            hit = NONE;
            if (rule.root == null) {
                return 0;
            }
            if (last == NONE) {
                noteHit(rule.root.first & wanted, null);
                return rule.root.first & wanted | (rule.root.empty ? END : 0);
            }
            int all = 0;
            for (Node node = rule.leafOf[last]; node != null && node.parent != null; node = node.parent) {
                int seen = END;
                if (node.parent.kind == Node.ROW) {
                    seen = lookInRow(node, wanted);
                } else if (node.parent.kind == Node.ANY_ORDER) {
                    seen = lookInAny(node.parent, wanted);
                } else if (node.parent.kind == Node.COUNTED) {
                    seen = lookInCount(node, node.parent.number, wanted);
                }
                noteHit(seen & ~END, node.parent);
                all |= seen & ~END;
                if ((seen & END) == 0) {
                    return all;
                }
            }
            return all | END;
        }

        private void noteHit(int occurrences, Node within) {
            if (hit != NONE || occurrences == 0) {
                return;
            }
            for (int i = 0; i < MOST_LETTERS && hit == NONE; i++) {
                if ((occurrences >> i & 1) != 0) {
                    hit = i;
                }
            }
            hitWithin = within;
            hitBy = within != null && within.kind == Node.COUNTED ? within.number : NONE;
        }

        private int lookInRow(Node node, int wanted) {
            int bits = 0;
            for (Node part = node.next; part != null; part = part.next) {
                bits |= part.first & wanted;
                if (!part.empty) {
                    return bits;
                }
            }
            return bits | END;
        }

        private int lookInAny(Node any, int wanted) {
            int isBegun = begun[any.number];
            int bits = 0;
            for (Node part = any.child; part != null; part = part.next) {
                if ((isBegun >> part.place & 1) == 0) {
                    bits |= part.first & wanted;
                }
            }
            return (any.mustBe & ~isBegun) == 0 ? bits | END : bits;
        }

        private int lookInCount(Node body, int count, int wanted) {
            boolean hasTimeLeft = rule.to[count] == NONE || time[count] < rule.to[count];
            int bits = hasTimeLeft ? body.first & wanted : 0;
            return time[count] >= rule.fewest[count] ? bits | END : bits;
        }

        boolean step(int letter) {
            int wanted = rule.occurrencesOf(letter);
            if (wanted == 0) {
                return false;
            }
            look(wanted);
            if (hit == NONE) {
                return false;
            }
            enter();
            return true;
        }

        /** What is around the OCCURRENCE within the node from which it is reached begins anew. */
        private void enter() {
            Node node = rule.leafOf[hit];
            while (node != null && node.parent != hitWithin) {
                Node up = node.parent;
                if (up != null && up.kind == Node.COUNTED) {
                    time[up.number] = 1;
                } else if (up != null && up.kind == Node.ANY_ORDER) {
                    begun[up.number] = 1 << node.place;
                }
                node = up;
            }
            if (node != null && hitWithin != null && hitWithin.kind == Node.COUNTED) {
                time[hitWithin.number]++;
            } else if (node != null && hitWithin != null && hitWithin.kind == Node.ANY_ORDER) {
                begun[hitWithin.number] |= 1 << node.place;
            }
            last = hit;
            by = hitBy;
        }

        boolean canEnd() {
            return (look(0) & END) != 0;
        }

        int couldCome() {
            return rule.lettersIn(look(END - 1) & ~END);
        }

        int timeOf(int count) {
            boolean isAround = last != NONE && (rule.outerOf[last] == count || rule.innerOf[last] == count);
            return isAround ? time[count] : 0;
        }

        int begunOf(int any) {
            Node node = rule.anyNode[any];
            boolean isAround = last != NONE && node != null && (node.inside >> last & 1) != 0;
            return isAround ? begun[any] : 0;
        }

        /** All that decides how it can go on, as one number: 5 bits, 2 * 4 bits, 4 * 4 bits. */
        int state() {
            if (last == NONE) {
                return 0;
            }
            int code = last + 1;
            code |= timeThatMatters(rule.outerOf[last]) << 5;
            code |= timeThatMatters(rule.innerOf[last]) << 9;
            for (int any = 0; any < rule.anys; any++) {
                code |= begunOf(any) << 13 + MOST_PARTS * any;
            }
            return code;
        }

        private int timeThatMatters(int count) {
            if (count == NONE) {
                return 0;
            }
            return rule.to[count] == NONE ? Math.min(time[count], rule.fewest[count]) : time[count];
        }

        void resume(Rule its, int code) {
            begin(its);
            last = (code & 31) - 1;
            if (last == NONE) {
                return;
            }
            setTime(rule.outerOf[last], code >> 5 & 15);
            setTime(rule.innerOf[last], code >> 9 & 15);
            for (int any = 0; any < rule.anys; any++) {
                begun[any] = code >> 13 + MOST_PARTS * any & 15;
            }
        }

        private void setTime(int count, int value) {
            if (count != NONE) {
                time[count] = value;
            }
        }
    }

    /** What was read last, as it was told, and how it is MENDED. */
    private static final class Reading {
        int ruleNumber = NONE;
        int size;
        int place;
        int could;
        boolean couldEnd;
        final int[] letters = new int[MOST_READ];
        final int[] takenBy = new int[MOST_READ];
        final int[] goesBy = new int[MOST_READ];
        int counts;
        final int[] timeOf = new int[MOST_COUNTS];
        int anys;
        final int[] partsOf = new int[MOST_ANYS];

        boolean mendKnown;
        int mendKind;
        int mendPlace;
        int mendLetter;
        private final int[] states = new int[MOST_READ + 1];

        void forget() {
            ruleNumber = NONE;
            mendKnown = false;
        }

        /** The first byte that is neither a blank nor one of 24 letters, or NONE. */
        static int wrongByte(int[] tape, int tapeSize) {
            int n = 0;
            for (int i = 0; i < tapeSize; i++) {
                boolean isLetter = tape[i] >= 'a' && tape[i] <= 'z';
                if (isLetter) {
                    n++;
                }
                if (!isLetter && tape[i] != ' ' || n > MOST_READ) {
                    return i;
                }
            }
            return NONE;
        }

        void readTape(int[] tape, int tapeSize, Rule rule, Walk walk) {
            size = 0;
            for (int i = 0; i < tapeSize && size < MOST_READ; i++) {
                if (tape[i] != ' ') {
                    letters[size] = tape[i] - 'a';
                    size++;
                }
            }
            walk.begin(rule);
            place = 0;
            while (place < size && walk.step(letters[place])) {
                takenBy[place] = walk.last;
                goesBy[place] = walk.by;
                place++;
            }
            could = walk.couldCome();
            couldEnd = walk.canEnd();
            counts = rule.counts;
            for (int i = 0; i < counts; i++) {
                timeOf[i] = walk.timeOf(i);
            }
            anys = rule.anys;
            for (int i = 0; i < anys; i++) {
                partsOf[i] = walk.begunOf(i);
            }
            mendKnown = false;
        }

        boolean isWord() {
            return place == size && couldEnd;
        }

        void mend(Rule rule, Walk walk) {
            mendKnown = true;
            int reached = 0;
            walk.begin(rule);
            states[0] = walk.state();
            while (reached < size && walk.step(letters[reached])) {
                reached++;
                states[reached] = walk.state();
            }
            if (reached == size && walk.canEnd()) {
                setMend(0, NONE, NONE);
                return;
            }
            int within = Math.min(reached, size - 1);
            if (!leaveOut(rule, walk, within) && !putIn(rule, walk, reached, 2) && !putIn(rule, walk, within, 3)) {
                setMend(NONE, NONE, NONE);
            }
        }

        private void setMend(int kind, int where, int letter) {
            mendKind = kind;
            mendPlace = where;
            mendLetter = letter;
        }

        private boolean leaveOut(Rule rule, Walk walk, int lastPlace) {
            for (int i = 0; i <= lastPlace; i++) {
                walk.resume(rule, states[i]);
                if (isWordFrom(walk, i + 1)) {
                    setMend(1, i, NONE);
                    return true;
                }
            }
            return false;
        }

        /** Kind 2: a letter more ahead of a place; 3: another one there. */
        private boolean putIn(Rule rule, Walk walk, int lastPlace, int kind) {
            int known = rule.lettersInAll();
            for (int i = 0; i <= lastPlace; i++) {
                for (int letter = 0; letter < ALPHABET; letter++) {
                    if ((known >> letter & 1) != 0) {
                        walk.resume(rule, states[i]);
                        if (walk.step(letter) && isWordFrom(walk, kind == 2 ? i : i + 1)) {
                            setMend(kind, i, letter);
                            return true;
                        }
                    }
                }
            }
            return false;
        }

        private boolean isWordFrom(Walk walk, int begin) {
            for (int i = begin; i < size; i++) {
                if (!walk.step(letters[i])) {
                    return false;
                }
            }
            return walk.canEnd();
        }
    }

    /** The shortest WORD that one of two RULES alone has, sought among what both walks can be in. */
    private static final class Difference {
        private static final int DEAD = -1;
        /** A RULE that is SURE has 16 letters at most at each place; 3 letters are kept. */
        private static final int MOST_PAIRS = 2 * (1 + 16 + 16 * 16 + 16 * 16 * 16);
        private static final int BUCKETS = 2048;

        int length = NONE;
        final int[] letters = new int[LONGEST_TOLD];
        private int oneNumber = NONE;
        private int twoNumber = NONE;

        private final int[] ones = new int[MOST_PAIRS];
        private final int[] twos = new int[MOST_PAIRS];
        /** The pair ahead, and the letter from it to this one: 32 * pair + letter. */
        private final int[] cameFrom = new int[MOST_PAIRS];
        private final int[] older = new int[MOST_PAIRS];
        private final int[] buckets = new int[BUCKETS];
        private int size;

        private int oneNow;
        private int twoNow;
        private boolean partsHere;

        void forget() {
            oneNumber = NONE;
            twoNumber = NONE;
        }

        boolean isOf(int one, int two) {
            return oneNumber == one && twoNumber == two;
        }

        void keep(int one, int two) {
            oneNumber = one;
            twoNumber = two;
        }

        void seek(Rule one, Rule two, Walk walk) {
            length = NONE;
            boolean isOnes = one.root != null && one.root.empty;
            boolean isTwos = two.root != null && two.root.empty;
            if (isOnes != isTwos) {
                length = 0;
                return;
            }
            for (int i = 0; i < BUCKETS; i++) {
                buckets[i] = NONE;
            }
            size = 0;
            store(0, 0, 0);
            int begin = 0;
            for (int n = 1; n <= LONGEST_TOLD; n++) {
                int end = size;
                for (int pair = begin; pair < end; pair++) {
                    if (goOn(one, two, pair, n, walk)) {
                        return;
                    }
                }
                begin = end;
            }
        }

        /** Whether the RULES part one letter behind this pair. */
        private boolean goOn(Rule one, Rule two, int pair, int n, Walk walk) {
            int known = one.lettersInAll() | two.lettersInAll();
            for (int letter = 0; letter < ALPHABET; letter++) {
                if ((known >> letter & 1) != 0) {
                    advance(one, two, pair, letter, walk);
                    if (partsHere) {
                        spell(pair, letter, n);
                        return true;
                    }
                    boolean isAlive = oneNow != DEAD || twoNow != DEAD;
                    if (isAlive && n < LONGEST_TOLD && !isKnown()) {
                        store(oneNow, twoNow, pair * 32 + letter);
                    }
                }
            }
            return false;
        }

        private void advance(Rule one, Rule two, int pair, int letter, Walk walk) {
            oneNow = stepFrom(one, ones[pair], letter, walk);
            boolean isOnes = oneNow != DEAD && walk.canEnd();
            twoNow = stepFrom(two, twos[pair], letter, walk);
            boolean isTwos = twoNow != DEAD && walk.canEnd();
            partsHere = isOnes != isTwos;
        }

        private static int stepFrom(Rule rule, int state, int letter, Walk walk) {
            if (state == DEAD) {
                return DEAD;
            }
            walk.resume(rule, state);
            return walk.step(letter) ? walk.state() : DEAD;
        }

        private static int bucketOf(int one, int two) {
            int mixed = one * 31 + two * 17;
            return (mixed ^ mixed >>> 13) & BUCKETS - 1;
        }

        private boolean isKnown() {
            int i = buckets[bucketOf(oneNow, twoNow)];
            for (int n = 0; n < size && i != NONE; n++) {
                if (ones[i] == oneNow && twos[i] == twoNow) {
                    return true;
                }
                i = older[i];
            }
            return false;
        }

        private void store(int one, int two, int from) {
            if (size >= MOST_PAIRS) {
                return;
            }
            int bucket = bucketOf(one, two);
            ones[size] = one;
            twos[size] = two;
            cameFrom[size] = from;
            older[size] = buckets[bucket];
            buckets[bucket] = size;
            size++;
        }

        private void spell(int pair, int letter, int n) {
            length = n;
            letters[n - 1] = letter;
            int at = pair;
            for (int k = n - 2; k >= 0; k--) {
                letters[k] = cameFrom[at] & 31;
                at = cameFrom[at] >> 5;
            }
        }
    }

    /** THINGS as they stand, and whether each is RIGHT by the RULES. */
    private static final class Document {
        static final int WRONG = 0;
        private static final int RIGHT = 1;
        private static final int UNSURE = 2;
        private static final int MOST_TEXT = 160;

        int size;
        final int[] letter = new int[MOST_THINGS];
        final int[] parent = new int[MOST_THINGS];
        final int[] holds = new int[MOST_THINGS];
        final int[] around = new int[MOST_THINGS];

        final int[] state = new int[MOST_THINGS];
        final int[] place = new int[MOST_THINGS];
        final int[] could = new int[MOST_THINGS];
        final int[] couldEnd = new int[MOST_THINGS];

        final int[] text = new int[MOST_TEXT];
        int textSize;

        private int open;
        private int latest;
        private boolean wantsThing;

        /** The FAULT, or NONE: then the THINGS stand here. */
        int parse(int[] tape, int tapeSize) {
            size = 0;
            open = NONE;
            latest = NONE;
            wantsThing = true;
            for (int at = 0; at < tapeSize; at++) {
                boolean isTaken = tape[at] == ' ' || (wantsThing ? takeThing(tape[at]) : takeSign(tape[at]));
                if (!isTaken) {
                    return at;
                }
            }
            return wantsThing || open != NONE ? tapeSize : NONE;
        }

        private boolean takeThing(int sign) {
            boolean isFull = size >= MOST_THINGS || open != NONE && holds[open] >= MOST_HELD;
            if (sign < 'a' || sign > 'z' || isFull) {
                return false;
            }
            letter[size] = sign - 'a';
            parent[size] = open;
            holds[size] = 0;
            around[size] = open == NONE ? 0 : around[open] + 1;
            if (open != NONE) {
                holds[open]++;
            }
            latest = size;
            size++;
            wantsThing = false;
            return true;
        }

        private boolean takeSign(int sign) {
            if (sign == '(' && latest != NONE && around[latest] + 1 < MOST_WITHIN) {
                open = latest;
                wantsThing = true;
                return true;
            }
            if (open == NONE || sign != ',' && sign != ')') {
                return false;
            }
            if (sign == ',') {
                wantsThing = true;
            } else {
                // What is closed can't be opened once more.
                latest = NONE;
                open = parent[open];
            }
            return true;
        }

        void hold(RuleSet rules, Walk walk) {
            for (int thing = 0; thing < size; thing++) {
                int number = rules.numberFor(letter[thing]);
                if (number == NONE) {
                    judge(thing, holds[thing] == 0, 0, 0, true);
                } else if (rules.list[number].sure) {
                    holdTo(thing, rules.list[number], walk);
                } else {
                    judge(thing, true, 0, 0, false);
                    state[thing] = UNSURE;
                }
            }
        }

        private void holdTo(int thing, Rule rule, Walk walk) {
            walk.begin(rule);
            int n = 0;
            boolean goesOn = true;
            for (int i = thing + 1; i < size && goesOn; i++) {
                if (parent[i] == thing) {
                    goesOn = walk.step(letter[i]);
                    n += goesOn ? 1 : 0;
                }
            }
            boolean isEnd = walk.canEnd();
            judge(thing, n == holds[thing] && isEnd, n, walk.couldCome(), isEnd);
        }

        private void judge(int thing, boolean isRight, int where, int letters, boolean isEnd) {
            state[thing] = isRight ? RIGHT : WRONG;
            place[thing] = isRight ? NONE : where;
            could[thing] = isRight ? 0 : letters;
            couldEnd[thing] = isRight ? 0 : bit(isEnd);
        }

        int wrongThings() {
            int n = 0;
            for (int thing = 0; thing < size; thing++) {
                n += state[thing] == WRONG ? 1 : 0;
            }
            return n;
        }

        int wrongThing(int i) {
            int n = 0;
            for (int thing = 0; thing < size; thing++) {
                if (state[thing] == WRONG) {
                    if (n == i) {
                        return thing;
                    }
                    n++;
                }
            }
            return NONE;
        }

        int fullest() {
            int best = NONE;
            for (int thing = 0; thing < size; thing++) {
                if (best == NONE || holds[thing] > holds[best]) {
                    best = thing;
                }
            }
            return best;
        }

        int deepest() {
            int most = 0;
            for (int thing = 0; thing < size; thing++) {
                most = Math.max(most, around[thing] + 1);
            }
            return most;
        }

        /** Writes the MESSAGE for a WRONG THING. */
        void tell(int thing) {
            textSize = 0;
            for (int level = 0; level <= around[thing]; level++) {
                if (level > 0) {
                    write('/');
                }
                write('a' + letter[ancestor(thing, level)]);
            }
            write(": ");
            int found = heldAt(thing, place[thing]);
            if (found == NONE) {
                write("end");
            } else {
                write('a' + letter[found]);
            }
            write(" at ");
            if (place[thing] >= 10) {
                write('0' + place[thing] / 10);
            }
            write('0' + place[thing] % 10);
            write(", ");
            tellWhatCould(thing);
        }

        private void tellWhatCould(int thing) {
            int begin = textSize;
            for (int i = 0; i < ALPHABET; i++) {
                if ((could[thing] >> i & 1) != 0) {
                    if (textSize > begin) {
                        write(" or ");
                    }
                    write('a' + i);
                }
            }
            if (couldEnd[thing] != 0) {
                if (textSize > begin) {
                    write(" or ");
                }
                write("end");
            }
        }

        private int ancestor(int thing, int level) {
            int at = thing;
            for (int n = around[thing]; n > level && parent[at] != NONE; n--) {
                at = parent[at];
            }
            return at;
        }

        private int heldAt(int thing, int where) {
            int n = 0;
            for (int i = thing + 1; i < size; i++) {
                if (parent[i] == thing) {
                    if (n == where) {
                        return i;
                    }
                    n++;
                }
            }
            return NONE;
        }

        private void write(int sign) {
            if (textSize < MOST_TEXT) {
                text[textSize] = sign;
                textSize++;
            }
        }

        private void write(String signs) {
            for (int i = 0; i < signs.length(); i++) {
                write(signs.charAt(i));
            }
        }
    }
}
