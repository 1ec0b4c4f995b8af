/** TEXTS at their bounds and one step beyond: Terms 1 and 3 as far as they tell of TEXTS, promises 2 to 6. */
public final class TextEdgesTest {
    private static final int NONE = Sheet.NONE;
    private static final Sheet SHEET = new Sheet();

    // ---- Terms 1: RULES ----

    private static String manyRules(int n) {
        StringBuilder text = new StringBuilder();
        for (int i = 0; i < n; i++) {
            text.append(i == 0 ? "" : ";").append((char) ('a' + i)).append("=0");
        }
        return text.toString();
    }

    private static void oneToEightRules() {
        String sentence = "RULE {; RULE}, 1 to 8";
        SHEET.faultOfRules(sentence, "^");
        SHEET.faultOfRules(sentence, "^;");
        SHEET.faultOfRules(sentence, "^;a=0");
        SHEET.faultOfRules(sentence, "a=0");
        SHEET.faultOfRules(sentence, "a=0;^");
        SHEET.faultOfRules(sentence, "a=0;^;b=0");
        SHEET.faultOfRules(sentence, manyRules(7));
        SHEET.faultOfRules(sentence, manyRules(7) + ";^");
        SHEET.faultOfRules(sentence, manyRules(8));
        SHEET.faultOfRules("the ; ahead of a ninth RULE", manyRules(8) + "^;i=0");
        SHEET.faultOfRules("the ; ahead of a ninth RULE", manyRules(8) + "^;");
        SHEET.faultOfRules("the ; ahead of a ninth RULE", manyRules(8) + "  ^;");
        for (int n = 1; n <= 8; n++) {
            ContentRules x = new ContentRules();
            Sheet.tape(x, manyRules(n));
            SHEET.due("how many", x.rules(), n);
            SHEET.due("how many", x.count(1), n);
        }
    }

    private static void lettersOfRules() {
        String sentence = "a letter (a .. z; no two the same)";
        SHEET.faultOfRules(sentence, "^`=0");
        SHEET.faultOfRules(sentence, "a=0");
        SHEET.faultOfRules(sentence, "z=0");
        SHEET.faultOfRules(sentence, "^{=0");
        SHEET.faultOfRules(sentence, "^A=0");
        SHEET.faultOfRules(sentence, "^Z=0");
        SHEET.faultOfRules(sentence, "^0=0");
        SHEET.faultOfRules(sentence, "^(a)=0");
        SHEET.faultOfRules(sentence, "a=0;b=0");
        SHEET.faultOfRules(sentence, "a=0;^a=0");
        SHEET.faultOfRules(sentence, "a=0;b=0;^a=0");
        SHEET.faultOfRules(sentence, "a=0;b=0;^b=0");
        SHEET.faultOfRules(sentence, "a=0;b=0;c=0");
        SHEET.faultOfRules(sentence, manyRules(7) + ";^g=0");
        SHEET.faultOfRules(sentence, manyRules(7) + ";^a=0");
        SHEET.faultOfRules("a PATTERN has the RULE's own letter, and one letter twice", "a=a,a,a");
    }

    private static void signsOfRules() {
        SHEET.faultOfRules("=", "a^");
        SHEET.faultOfRules("=", "a^<0");
        SHEET.faultOfRules("=", "a^>0");
        SHEET.faultOfRules("=", "a^b=0");
        SHEET.faultOfRules("=", "a=^=0");
        SHEET.faultOfRules("=", "a=^");
        SHEET.faultOfRules("=", "a=^;b=0");
        SHEET.faultOfRules("ROW {| ROW}", "a=b|c");
        SHEET.faultOfRules("ROW {| ROW}", "a=b|^");
        SHEET.faultOfRules("ROW {| ROW}", "a=^|b");
        SHEET.faultOfRules("ROW {| ROW}", "a=b|^|c");
        SHEET.faultOfRules("ROW {| ROW}", "a=b|^,c");
        SHEET.faultOfRules("ROW {| ROW}", "a=b^}c");
        SHEET.faultOfRules("UNIT {, UNIT}", "a=b,c");
        SHEET.faultOfRules("UNIT {, UNIT}", "a=b,^");
        SHEET.faultOfRules("UNIT {, UNIT}", "a=^,b");
        SHEET.faultOfRules("UNIT {, UNIT}", "a=b,^,c");
        SHEET.faultOfRules("UNIT {, UNIT}", "a=b,^|c");
        SHEET.faultOfRules("UNIT {, UNIT}", "a=b^c");
        SHEET.faultOfRules("UNIT {, UNIT}", "a=b^0");
        SHEET.faultOfRules("UNIT {, UNIT}", "a=b^(c)");
        SHEET.faultOfRules("UNIT {, UNIT}", "a=b^[c&d]");
        SHEET.faultOfRules("UNIT {, UNIT}", "a=b^-c");
    }

    private static void atoms() {
        SHEET.faultOfRules("ATOM: a letter", "a=^`");
        SHEET.faultOfRules("ATOM: a letter", "a=a");
        SHEET.faultOfRules("ATOM: a letter", "a=z");
        SHEET.faultOfRules("ATOM: a letter", "a=^{");
        SHEET.faultOfRules("ATOM: a letter", "a=^B");
        SHEET.faultOfRules("ATOM: 0", "a=^/");
        SHEET.faultOfRules("ATOM: 0", "a=0");
        SHEET.faultOfRules("ATOM: 0", "a=^1");
        SHEET.faultOfRules("ATOM: 0", "a=0^0");
        SHEET.faultOfRules("ATOM: 0", "a=0^b");
        SHEET.faultOfRules("ATOM: ( PATTERN )", "a=(b|c,d)");
        SHEET.faultOfRules("ATOM: ( PATTERN )", "a=(^)");
        SHEET.faultOfRules("ATOM: ( PATTERN )", "a=(^");
        SHEET.faultOfRules("ATOM: ( PATTERN )", "a=(b^");
        SHEET.faultOfRules("ATOM: ( PATTERN )", "a=(b^]");
        SHEET.faultOfRules("ATOM: ( PATTERN )", "a=(b^&c)");
        SHEET.faultOfRules("ATOM: ( PATTERN )", "a=(b^;b=c)");
        SHEET.faultOfRules("ATOM: ( PATTERN )", "a=^)");
        SHEET.faultOfRules("ATOM: ( PATTERN )", "a=b^)");
        SHEET.faultOfRules("ATOM: ( PATTERN )", "a=(b)^)");
        SHEET.faultOfRules("ATOM: ( PATTERN )", "a=(b)^(c)");
    }

    private static void twoToFourParts() {
        String sentence = "ANY: 2 to 4 PARTS";
        SHEET.faultOfRules(sentence, "a=[^]");
        SHEET.faultOfRules(sentence, "a=[^&b]");
        SHEET.faultOfRules(sentence, "a=[b^]");
        SHEET.faultOfRules(sentence, "a=[b^");
        SHEET.faultOfRules(sentence, "a=[b&^]");
        SHEET.faultOfRules(sentence, "a=[b&c]");
        SHEET.faultOfRules(sentence, "a=[b&c^");
        SHEET.faultOfRules(sentence, "a=[b&c&^]");
        SHEET.faultOfRules(sentence, "a=[b&c&d]");
        SHEET.faultOfRules(sentence, "a=[b&c&d&e]");
        SHEET.faultOfRules("the & ahead of a fifth PART", "a=[b&c&d&e^&f]");
        SHEET.faultOfRules("the & ahead of a fifth PART", "a=[b&c&d&e^&");
        SHEET.faultOfRules("the & ahead of a fifth PART", "a=[0&0&0&0^&0]");
        SHEET.faultOfRules("four of the outer, none of the inner", "a=[b&[c&d&e&f]&g&h]");
        SHEET.faultOfRules("four of the outer, none of the inner", "a=[b&[c&d&e&f]&g&h^&i]");
        SHEET.faultOfRules("a PART is a PATTERN", "a=[b,c|d&e?|0]");
        SHEET.faultOfRules("an ANY's end", "a=[b&c^)");
        SHEET.faultOfRules("an ANY's end", "a=[b&c^;b=d]");
        SHEET.faultOfRules("an ANY's end", "a=[b^)");
        SHEET.faultOfRules("no & without an ANY", "a=b^&c");
        SHEET.faultOfRules("no ] without an ANY", "a=b^]");
        SHEET.faultOfRules("no PART ends within brackets", "a=[(b^&c)&d]");
    }

    private static void oneCountBehindAnAtom() {
        String[] counts = {"?", "*", "+", "{1}", "{0,}", "{0,1}"};
        for (String one : counts) {
            SHEET.faultOfRules("perhaps with one COUNT behind it", "a=b" + one);
            SHEET.faultOfRules("perhaps with one COUNT behind it", "a=0" + one);
            SHEET.faultOfRules("perhaps with one COUNT behind it", "a=(b)" + one);
            SHEET.faultOfRules("perhaps with one COUNT behind it", "a=[b&c]" + one);
            SHEET.faultOfRules("none without an ATOM", "a=^" + one);
            SHEET.faultOfRules("none without an ATOM", "a=b,^" + one);
            SHEET.faultOfRules("none without an ATOM", "a=(^" + one + ")");
            for (String two : counts) {
                SHEET.faultOfRules("one COUNT alone", "a=b" + one + "^" + two);
                SHEET.faultOfRules("a COUNT around a COUNT", "a=(b" + one + ")" + two);
            }
        }
        SHEET.faultOfRules("the signs beside those of COUNTS", "a=b^>");
        SHEET.faultOfRules("the signs beside those of COUNTS", "a=b^@");
        SHEET.faultOfRules("the signs beside those of COUNTS", "a=b^z");
    }

    // ---- Terms 1: N ----

    /** What stands in the braces of one COUNT. */
    private static void braces(String sentence, String... marked) {
        for (String inner : marked) {
            SHEET.faultOfRules(sentence, "a=b{" + inner);
        }
    }

    private static void oneOrTwoDigits() {
        braces("N: one or two digits", "^}", "1}", "12}", "12^0}", "01}", "01^2}", "00^0,1}", "00^1}");
        braces("N: one or two digits", "^,2}", "1,2}", "01,02}", "01,02^0}", "01^0,2}", "10^1,12}", "1,12^0}");
        braces("the signs beside digits", "^/}", "9}", "^:}", "^a}", "1^/}", "1^:}", "1,^/}", "1,^:}", "1,1^/}", "1,1^:}");
        braces("{ N }, { N , }, { N , N }", "2}", "2,}", "2,3}", "^{2}}", "2^)", "2,^)", "2,3^,4}", "2,^,3}", "2,3^)", "2^?}");
        braces("too early", "^", "1^", "12^", "1,^", "1,2^", "1,12^", "0^", "00^", "0,^");
    }

    private static void zeroToTwelve() {
        braces("N: 0 .. 12", "0,1}", "00,1}", "1,1}", "11,12}", "12,12}", "1^3,13}", "1^4,14}", "1^9}", "2^0,}", "9^9,}");
        braces("N: 0 .. 12", "11}", "12}", "1^3}", "9}", "2^0}", "3^0}");
        braces("N: 0 .. 12", "0,11}", "0,12}", "0,1^3}", "0,1^9}", "0,2^0}", "0,9}", "0,9^0}", "0,09}");
        for (int n = 0; n <= 99; n++) {
            // Of two digits the second one is that by which N is too much.
            String two = n < 10 ? "0" + n : "" + n;
            braces("a digit by which N is too much", n <= 12 ? two + ",}" : n / 10 + "^" + n % 10 + ",}");
        }
    }

    private static void lastAtLeastOne() {
        braces("the last one at least 1", "0^}", "00^}", "0 ^}", "00 ^}", "1}", "01}", "0,}", "00,}", "0,1}", "0,01}", "00,1}");
        braces("the } behind one that is too little", "0,0^}", "00,0^}", "1,0^}");
        braces("a last N that is too little ends with a blank", "0,0^ }", "0,0^ 1}", "2,1^ }", "2,1^ 2}");
        braces("a last N that is too little ends with the TEXT", "0,0^", "2,1^");
        braces("behind 00 no TEXT can go on", "0,0^0}", "1,0^0}");
    }

    private static void notBelowTheOneAhead() {
        for (int from = 0; from <= 12; from++) {
            for (int to = 0; to <= 13; to++) {
                int least = Math.max(from, 1);
                String marked;
                if (to >= 10) {
                    marked = to >= least && to <= 12 ? "" + to : "1^" + to % 10;
                } else if (to >= least) {
                    marked = "" + to;
                } else {
                    // 1 begins 10 .. 12, 0 begins 01 .. 09: the } is the FAULT; another digit begins nothing.
                    marked = to == 1 || to == 0 && least <= 9 ? to + "^" : "^" + to;
                }
                braces("not below that ahead of it", from + "," + marked + "}");
                if (to < 10 && least <= 9) {
                    String second = to >= least ? "0" + to : "0^" + to;
                    braces("not below that ahead of it", from + "," + second + "}");
                }
            }
        }
        braces("that can't begin a last N that is enough", "10,^09}", "11,^0", "12,^0", "9,09}", "9,0^8}", "2, 1^ }");
        braces("two digits that are too little", "11,1^0}", "12,1^1}", "12,1^0}");
    }

    // ---- Terms 1: limits ----

    private static void sixteenOccurrences() {
        String sentence = "a RULE has 16 OCCURRENCES at most";
        SHEET.faultOfRules(sentence, "a=" + Sheet.repeat("b", ",", 15));
        SHEET.faultOfRules(sentence, "a=" + Sheet.repeat("b", ",", 16));
        SHEET.faultOfRules("a 17th letter", "a=" + Sheet.repeat("b", ",", 16) + ",^b");
        SHEET.faultOfRules("a 17th letter", "a=" + Sheet.repeat("b", "|", 16) + "|^c");
        SHEET.faultOfRules("a 17th letter", "a=" + Sheet.repeat("b", ",", 16) + ",(0|^b)");
        SHEET.faultOfRules("a 17th letter", "a=" + Sheet.repeat("b", ",", 15) + ",[b&^b]");
        SHEET.faultOfRules("a comma can come, 0 behind it", "a=" + Sheet.repeat("b", ",", 16) + ",0,0");
        SHEET.faultOfRules("a comma can come, 0 behind it", "a=" + Sheet.repeat("b", ",", 16) + ",^");
        SHEET.faultOfRules("0 is no letter", "a=" + Sheet.repeat("0", ",", 17) + "," + Sheet.repeat("b", ",", 16));
        SHEET.faultOfRules("of each RULE", "a=" + Sheet.repeat("b", ",", 16) + ";b=" + Sheet.repeat("b", ",", 16));
        SHEET.faultOfRules("of each RULE", "a=b;b=" + Sheet.repeat("b", ",", 16) + ",^b");
    }

    private static void eightCounts() {
        String sentence = "8 COUNTS at most";
        SHEET.faultOfRules(sentence, "a=" + Sheet.repeat("b?", ",", 7));
        SHEET.faultOfRules(sentence, "a=" + Sheet.repeat("b?", ",", 8));
        for (String count : new String[] {"?", "*", "+", "{1}", "{"}) {
            SHEET.faultOfRules("a ninth COUNT's sign", "a=" + Sheet.repeat("b?", ",", 8) + ",b^" + count);
            SHEET.faultOfRules("a ninth COUNT's sign", "a=(" + Sheet.repeat("0+", "|", 8) + ")^" + count);
        }
        SHEET.faultOfRules("behind eight a letter can come", "a=" + Sheet.repeat("b?", ",", 8) + ",b");
        SHEET.faultOfRules("of each RULE", "a=" + Sheet.repeat("b?", ",", 8) + ";b=" + Sheet.repeat("b?", ",", 8));
        SHEET.faultOfRules("of each RULE", "a=b?;b=" + Sheet.repeat("b?", ",", 8) + ",b^?");
    }

    private static void fourAnys() {
        String sentence = "4 ANYS at most";
        SHEET.faultOfRules(sentence, "a=" + Sheet.repeat("[b&c]", ",", 3));
        SHEET.faultOfRules(sentence, "a=" + Sheet.repeat("[b&c]", ",", 4));
        SHEET.faultOfRules("a fifth [", "a=" + Sheet.repeat("[b&c]", ",", 4) + ",^[b&c]");
        SHEET.faultOfRules("a fifth [", "a=" + Sheet.repeat("[b&c]", ",", 4) + ",^[");
        SHEET.faultOfRules("within one another", "a=[b&[c&[d&[e&f]]]]");
        SHEET.faultOfRules("a fifth [", "a=[b&[c&[d&[e&^[f&g]]]]]");
        SHEET.faultOfRules("a fifth [", "a=[[b&c]&[d&e]&[f&g]&^[h&i]]");
        SHEET.faultOfRules("of each RULE", "a=" + Sheet.repeat("[b&c]", ",", 4) + ";b=" + Sheet.repeat("[b&c]", ",", 4));
        SHEET.faultOfRules("of each RULE", "a=[b&c];b=" + Sheet.repeat("[b&c]", ",", 4) + ",^[");
    }

    private static void twoCountsAroundALetter() {
        String sentence = "no more than two COUNTS stand around one letter (0, too)";
        for (String atom : new String[] {"b", "0"}) {
            for (String count : new String[] {"?", "*", "+", "{1}"}) {
                SHEET.faultOfRules(sentence, "a=" + atom + count);
                SHEET.faultOfRules(sentence, "a=(" + atom + count + ")" + count);
                SHEET.faultOfRules(sentence, "a=((" + atom + count + ")" + count + ")^" + count);
                SHEET.faultOfRules(sentence, "a=((" + atom + "?,c)?|d)^" + count);
                SHEET.faultOfRules(sentence, "a=(c,d|(e," + atom + "?)?)^" + count);
                SHEET.faultOfRules(sentence, "a=[c&(d|" + atom + "*)+]^" + count);
            }
        }
        SHEET.faultOfRules("around one letter, not in all", "a=(b?,c?,d*|[e+&f{2}])*,g?");
        SHEET.faultOfRules("around one letter, not in all", "a=((b?,c)?,d),(e,(f?,g)?)");
    }

    private static void eightBrackets() {
        String sentence = "no more than 8 of ( [ around one place";
        String end = "))))))))";
        SHEET.faultOfRules(sentence, "a=(((((((b" + end.substring(1));
        SHEET.faultOfRules(sentence, "a=((((((((b" + end);
        SHEET.faultOfRules("a ninth of ( [", "a=((((((((^(b)" + end);
        SHEET.faultOfRules("a ninth of ( [", "a=((((((((^[b&c]" + end);
        SHEET.faultOfRules("a ninth of ( [", "a=((((((((b,^(");
        SHEET.faultOfRules("[ among them", "a=[b&[b&[b&[b&((((b))))]]]]");
        SHEET.faultOfRules("[ among them", "a=[b&[b&[b&[b&((((^(b)))))]]]]");
        SHEET.faultOfRules("[ among them", "a=((((((([b&c]" + end.substring(1));
        SHEET.faultOfRules("[ among them", "a=((((((([^(b)");
        SHEET.faultOfRules("in the first PART", "a=[(((((((b))))))) & c]");
        SHEET.faultOfRules("in the first PART", "a=[(((((((^(b");
        SHEET.faultOfRules("in the second PART", "a=[c&(((((((b)))))))]");
        SHEET.faultOfRules("in the second PART", "a=[c&(((((((^(b");
        SHEET.faultOfRules("around one place, not in all", "a=((((((((b" + end + ",((((((((c" + end + "|(d)");
        SHEET.faultOfRules("of each RULE", "a=((((((((b" + end + ";b=((((((((b" + end);
    }

    private static void blanks() {
        String signs = "a=(b{1,2}|[c&0]?),d*|e+;f=0{10,}";
        // Digits of one N stay together.
        StringBuilder spread = new StringBuilder("  ");
        for (int i = 0; i < signs.length(); i++) {
            spread.append(signs.charAt(i)).append(signs.startsWith("10", i) ? "" : "  ");
        }
        SHEET.faultOfRules("blanks may stand between all signs", signs);
        SHEET.faultOfRules("blanks may stand between all signs", spread.toString());
        braces("not within a N", "1 ^0}", " 10 }", "1,1 ^0}", "1, 10 }", "0 ^1}", "1 , 2 }");
        SHEET.faultOfRules("blanks alone", "   ^");
        SHEET.faultOfRules("blanks behind", "a=b,  ^");
        for (int other : new int[] {9, 10, 13, 31, 33, 127, 160, 255}) {
            SHEET.faultOfRules("blanks (32)", "a=b^" + (char) other);
            SHEET.faultOfRules("blanks (32)", "^" + (char) other + "a=b");
            SHEET.faultOfDocument("blanks (32)", "a^" + (char) other);
            SHEET.faultOfDocument("blanks (32)", "a(^" + (char) other + "b)");
        }
    }

    /** A TEXT's begins: those that are TEXTS have no FAULT, all others end too early. */
    private static void endsTooEarly() {
        String whole = "a=b{1,2},[c&d]*|(e);f=0";
        String texts = " 3 8 14 15 19 23 ";
        for (int n = 0; n <= whole.length(); n++) {
            boolean isText = texts.contains(" " + n + " ");
            SHEET.faultOfRules("the length, if it ends too early", whole.substring(0, n) + (isText ? "" : "^"));
            SHEET.faultOfRules("the length, if it ends too early", whole.substring(0, n) + (isText ? "  " : "  ^"));
        }
        String things = "a(b,c(d),e)";
        for (int n = 0; n <= things.length(); n++) {
            boolean isText = n == 1 || n == things.length();
            SHEET.faultOfDocument("the length, if it ends too early", things.substring(0, n) + (isText ? "" : "^"));
            SHEET.faultOfDocument("the length, if it ends too early", things.substring(0, n) + (isText ? " " : " ^"));
        }
    }

    // ---- Terms 3: DOCUMENTS ----

    private static void signsOfThings() {
        String sentence = "a THING: a letter, perhaps ( THING {, THING} )";
        String[] all = {"^", "a", "z", "^`", "^{", "^A", "^0", "^(a)", "^,", "^)", "a^,b", "a^b", "a^)", "a^;b", "a(^)", "a(^",
            "a(b^", "a(b)", "a(b,^)", "a(b,^,c)", "a(^,b)", "a(b^c)", "a(b,c)", "a(b)^,c", "a(b)^c", "a(b)^(c)", "a(b)^)",
            "a(^(b))", "a(b(c),d(e,f))", "a(b(c)^d)", "a(b(c)^(d))", "a(b(c)^", "a(b^]", "a(^`)", "a(a)", "a(z)", "a(^{)",
            " a ( b , c ( d ) ) ", "  ^", "a(b)  ^b", "a^'b)", "a(b^-c)", "a(b^*c)", "a(b^+c)"};
        for (String marked : all) {
            SHEET.faultOfDocument(sentence, marked);
        }
    }

    private static void sixtyThings() {
        String sentence = "60 THINGS";
        // a with two of 24 and their holders are 51 THINGS; the third one holds the rest.
        String begin = "a(" + Sheet.repeat("b(" + Sheet.repeat("c", ",", 24) + ")", ",", 2) + ",b(";
        SHEET.faultOfDocument(sentence, begin + Sheet.repeat("c", ",", 7) + "))");
        SHEET.faultOfDocument(sentence, begin + Sheet.repeat("c", ",", 8) + "))");
        SHEET.faultOfDocument("FAULT at a letter too many", begin + Sheet.repeat("c", ",", 8) + ",^c))");
        SHEET.faultOfDocument("FAULT at a letter too many", begin + Sheet.repeat("c", ",", 8) + ",^");
        SHEET.faultOfDocument("FAULT at a letter too many", begin + Sheet.repeat("c", ",", 8) + "),^b)");
        SHEET.faultOfDocument("FAULT at a letter too many", begin + Sheet.repeat("c", ",", 8) + "(^c)))");
        ContentRules x = new ContentRules();
        SHEET.due(sentence, Sheet.document(x, begin + Sheet.repeat("c", ",", 7) + "))"), 59);
        SHEET.due(sentence, Sheet.document(x, begin + Sheet.repeat("c", ",", 8) + "))"), 60);
        SHEET.due(sentence, Sheet.document(x, begin + Sheet.repeat("c", ",", 9) + "))"), NONE);
        SHEET.due(sentence, x.count(2), 60);
        SHEET.due("a THING alone", Sheet.document(x, "a"), 1);
    }

    private static void eightWithinOneAnother() {
        String sentence = "8 within one another";
        SHEET.faultOfDocument(sentence, "a(b(c(d(e(f(g))))))");
        SHEET.faultOfDocument(sentence, "a(b(c(d(e(f(g(h)))))))");
        SHEET.faultOfDocument("FAULT at the ( too deep", "a(b(c(d(e(f(g(h^(i))))))))");
        SHEET.faultOfDocument("FAULT at the ( too deep", "a(b(c(d(e(f(g(h^(");
        SHEET.faultOfDocument("FAULT at the ( too deep", "a(b(c(d(e(f(g(h,i^(j))))))))");
        SHEET.faultOfDocument("FAULT at the ( too deep", "a(b,c(d(e(f(g(h(i,j  ^(k))))))))");
        SHEET.faultOfDocument(sentence, "a(b(c(d(e(f(g(h),g(h)))))),b(c(d(e(f(g(h)))))))");
    }

    private static void twentyFourInOne() {
        String sentence = "24 in one at most";
        SHEET.faultOfDocument(sentence, "a(" + Sheet.repeat("b", ",", 23) + ")");
        SHEET.faultOfDocument(sentence, "a(" + Sheet.repeat("b", ",", 24) + ")");
        SHEET.faultOfDocument("FAULT at a letter too many", "a(" + Sheet.repeat("b", ",", 24) + ",^b)");
        SHEET.faultOfDocument("FAULT at a letter too many", "a(" + Sheet.repeat("b", ",", 24) + " , ^b)");
        SHEET.faultOfDocument("FAULT at a letter too many", "a(" + Sheet.repeat("b", ",", 24) + ",^");
        SHEET.faultOfDocument("in one, not in all", "a(b(" + Sheet.repeat("c", ",", 24) + ")," + Sheet.repeat("b", ",", 23) + ")");
        SHEET.faultOfDocument("in one, not in all", "a(" + Sheet.repeat("b", ",", 23) + ",b(" + Sheet.repeat("c", ",", 24) + ",^c))");
        SHEET.faultOfDocument("in one, not in all", "a(b(c)," + Sheet.repeat("b", ",", 23) + ",^b)");
    }

    // ---- promises 2 to 4: the TAPE ----

    private static void feedTakesTwentyBytes() {
        for (int place = 0; place < 20; place++) {
            int[] one = new int[5];
            one[place / 4] = 97 << 24 - 8 * (place % 4);
            ContentRules x = new ContentRules();
            SHEET.due("19 bytes of 0 are left out", x.feed(one[0], one[1], one[2], one[3], one[4]), 1);
            SHEET.due("the byte is whole", x.fault(1), NONE);
            int[] all = {0x61616161, 0x61616161, 0x61616161, 0x61616161, 0x61616161};
            all[place / 4] &= ~(255 << 24 - 8 * (place % 4));
            SHEET.due("a byte of 0 is left out", x.feed(all[0], all[1], all[2], all[3], all[4]), 20);
        }
        ContentRules x = new ContentRules();
        SHEET.due("nothing", x.feed(0, 0, 0, 0, 0), 0);
        SHEET.due("of each number the highest first", x.feed(0x7a3d287a, 0x2c790078, 0x00293f00, 0x2c77002c, 0x0000762a), 14);
        SHEET.due("twenty bytes more", x.feed(0x3b613d62, 0, 0, 0, 0), 18);
        SHEET.due("z=(z,yx)? is no TEXT", x.fault(0), 6);
        SHEET.due("all but it", x.end(6), true);
        SHEET.due("more behind what is left", x.feed(0x293f2c77, 0x2c762a3b, 0x613d6200, 0, 0), 17);
        SHEET.due("z=(z,y)?,w,v*;a=b", x.rules(), 2);
        SHEET.due("its letter", x.rule(0, 0), 25);
        int[] letters = {25, 24, 22, 21};
        for (int i = 0; i < letters.length; i++) {
            SHEET.due("its letters as they came", x.occurrence(0, i, 0), letters[i]);
        }
        SHEET.due("bytes up to 255", x.feed(-1, 0x80000000, 0x00800000, 0x00008000, 0x00000080), 8);
        SHEET.due("1 is a byte", x.feed(0x01000000, 0x00010000, 0x00000100, 0x00000001, 0), 12);
    }

    private static ContentRules withBytes(int n) {
        ContentRules x = new ContentRules();
        Sheet.more(x, Sheet.repeat("a", "", n));
        SHEET.due("bytes", x.count(0), n);
        return x;
    }

    private static void feedUpToFourHundred() {
        int a = 0x61000000;
        int four = 0x61616161;
        SHEET.due("399", withBytes(398).feed(a, 0, 0, 0, 0), 399);
        SHEET.due("400", withBytes(399).feed(0, 0, 0, 0, 0x61), 400);
        SHEET.due("400", withBytes(380).feed(four, four, four, four, four), 400);
        SHEET.due("400 and nothing more", withBytes(400).feed(0, 0, 0, 0, 0), 400);
        SHEET.due("NONE: more than 400", withBytes(400).feed(0, 0, 0, 0, 0x61), NONE);
        SHEET.due("NONE: more than 400", withBytes(381).feed(four, four, four, four, four), NONE);
        ContentRules x = withBytes(399);
        SHEET.due("NONE: more than 400", x.feed(0x61610000, 0, 0, 0, 0), NONE);
        SHEET.due("nothing of it comes to the TAPE", x.count(0), 399);
        SHEET.due("one byte still can", x.feed(0, 0x3d, 0, 0, 0), 400);
        SHEET.due("a full TAPE has no more", x.feed(a, 0, 0, 0, 0), NONE);
        SHEET.due("a full TAPE stays", x.count(0), 400);
        String longest = "a=" + Sheet.repeat("b", ",", 16) + "|0" + Sheet.repeat(" ", "", 400 - 35);
        ContentRules y = new ContentRules();
        Sheet.tape(y, longest);
        SHEET.due("RULES of 400 bytes", y.count(0), 400);
        SHEET.due("RULES of 400 bytes", y.rules(), 1);
        Sheet.tape(y, Sheet.repeat(" ", "", 399) + "a");
        SHEET.due("a DOCUMENT of 400 bytes", y.document(), 1);
        Sheet.tape(y, Sheet.repeat(" ", "", 399) + "=");
        SHEET.due("the last byte's FAULT", y.fault(1), 399);
        Sheet.tape(y, Sheet.repeat(" ", "", 400));
        SHEET.due("the length as FAULT", y.fault(0), 400);
    }

    private static void endKeepsTheFirstBytes() {
        ContentRules x = new ContentRules();
        SHEET.due("an empty TAPE", x.end(0), true);
        SHEET.due("False: n", x.end(1), false);
        Sheet.tape(x, "a=b,c,d");
        for (int n : Sheet.BELOW) {
            SHEET.due("False: n " + n, x.end(n), false);
        }
        SHEET.due("False: n", x.end(-1), false);
        SHEET.due("False: n", x.end(8), false);
        SHEET.due("False: n", x.end(Integer.MAX_VALUE), false);
        SHEET.due("the TAPE is as it was", x.count(0), 7);
        SHEET.due("all of it", x.end(7), true);
        SHEET.due("all of it", x.count(0), 7);
        SHEET.due("one less", x.end(6), true);
        SHEET.due("one less", x.fault(0), 6);
        SHEET.due("what was there isn't now", x.end(7), false);
        SHEET.due("the first n", x.end(5), true);
        SHEET.due("the first n", x.rules(), 1);
        SHEET.due("the first n", x.rule(0, 1), 2);
        SHEET.due("the TAPE is empty then", x.end(1), false);
        Sheet.tape(x, "ab");
        SHEET.due("one byte", x.end(1), true);
        SHEET.due("one byte", x.fault(1), NONE);
        SHEET.due("none", x.end(0), true);
        SHEET.due("none", x.count(0), 0);
        ContentRules full = withBytes(400);
        SHEET.due("beyond a full TAPE", full.end(401), false);
        SHEET.due("a full TAPE", full.end(400), true);
        SHEET.due("one less than a full TAPE", full.end(399), true);
        SHEET.due("399", full.count(0), 399);
    }

    /** What was behind the last byte before is no part of the TEXT. */
    private static void endHidesTheRest() {
        String[] texts = {"a=b{12}", "a=b{1,12}", "a=b,c;d=e", "a=[b&c]{10,}", "a=((b)|0)"};
        for (String text : texts) {
            for (int n = text.length(); n >= 0; n--) {
                ContentRules fresh = new ContentRules();
                Sheet.tape(fresh, text.substring(0, n));
                ContentRules used = new ContentRules();
                Sheet.tape(used, text);
                SHEET.due(text + " ended at " + n, used.end(n), true);
                SHEET.due(text + " ended at " + n, used.fault(0), fresh.fault(0));
                SHEET.due(text + " ended at " + n, used.fault(1), fresh.fault(1));
                ContentRules full = new ContentRules();
                Sheet.tape(full, Sheet.repeat(" ", "", 400 - n) + text.substring(0, n));
                int late = fresh.fault(0) == NONE ? NONE : fresh.fault(0) + 400 - n;
                SHEET.due(text + " up to " + n + " ends at 400", full.fault(0), late);
            }
        }
        ContentRules x = new ContentRules();
        Sheet.tape(x, "a(b,c)");
        SHEET.due("one THING of it", x.end(1), true);
        SHEET.due("one THING of it", x.document(), 1);
        Sheet.tape(x, "a=b*");
        SHEET.due("RULES", x.rules(), 1);
        Sheet.tape(x, "bb b");
        SHEET.due("two letters of it", x.end(3), true);
        SHEET.due("two letters of it", x.reads(0), 1);
        SHEET.due("two letters of it", x.read(1), 2);
    }

    private static void faultOfTwoKinds() {
        ContentRules x = new ContentRules();
        for (int what : new int[] {Integer.MIN_VALUE, -2, -1, 2, 3, Integer.MAX_VALUE}) {
            SHEET.due("-2: another what", x.fault(what), -2);
        }
        SHEET.due("an empty TAPE, RULES", x.fault(0), 0);
        SHEET.due("an empty TAPE, a DOCUMENT", x.fault(1), 0);
        Sheet.tape(x, "a=b");
        SHEET.due("RULES (0)", x.fault(0), NONE);
        SHEET.due("a DOCUMENT (1)", x.fault(1), 1);
        Sheet.tape(x, "a");
        SHEET.due("RULES (0)", x.fault(0), 1);
        SHEET.due("a DOCUMENT (1)", x.fault(1), NONE);
        SHEET.due("-2: another what", x.fault(-1), -2);
        SHEET.due("the TAPE stays", x.count(0), 1);
    }

    public static void main(String[] args) {
        oneToEightRules();
        lettersOfRules();
        signsOfRules();
        atoms();
        twoToFourParts();
        oneCountBehindAnAtom();
        oneOrTwoDigits();
        zeroToTwelve();
        lastAtLeastOne();
        notBelowTheOneAhead();
        sixteenOccurrences();
        eightCounts();
        fourAnys();
        twoCountsAroundALetter();
        eightBrackets();
        blanks();
        endsTooEarly();
        signsOfThings();
        sixtyThings();
        eightWithinOneAnother();
        twentyFourInOne();
        feedTakesTwentyBytes();
        feedUpToFourHundred();
        endKeepsTheFirstBytes();
        endHidesTheRest();
        faultOfTwoKinds();
        SHEET.close();
    }
}
