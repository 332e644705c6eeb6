/** Promise 4 and 2. RULES: where a text of rules is just right and where it is not; each test names its sentence. */
public final class TextEdgesTest {
    private static final String RULES = "2. RULES";
    private static final String NUMBERS = "3: a NUMBER that may not stand there: of count, distinct 1 to 1000; of sum 1 to"
            + " 2147483647; of within 1 to 1000000; of quiet 0 to 1000000; behind / 0 to 32";
    private static final String TOO_MANY = "4: one too many: a RULE (at 'rule'), a NAME behind by, a COND (at then),"
            + " a ( or not";
    private static final String TOLD = "5: a RULE's NAME that was told, a NAME behind by that was, a RULE behind alert"
            + " that is not above.";
    private static final String GOES_ON = "(A WORD, the digits of a NUMBER, an ADDRESS go on as long as small letters and"
            + " digits do, the latter with . too: where it is not as told then, it is no TOKEN; so is a \" without another"
            + " one, or with more. Digits with a . right behind them, and no - ahead, begin an ADDRESS.)";
    private static final String RULE = "rule a count 1 of has x within 1;";
    private static final String[] QUOTED = {"rule", "by", "within", "quiet", "count", "of", "distinct", "sum", "chain",
        "then", "unless", "lack", "or", "and", "not", "kind", "has", "alert", "like", "in"};

    public static void main(String[] args) {
        atMost2000Bytes();
        blanks();
        words();
        numberDigits();
        numberValues();
        numberSign();
        texts();
        textBytes();
        addresses();
        signs();
        wordsGoOn();
        numbersGoOn();
        addressesGoOn();
        textsEnd();
        dotsBegin();
        twelveRules();
        quotedWords();
        ruleNames();
        threeNamesBehindBy();
        noTwoBehindBy();
        fiveConds();
        lackHasTwo();
        twelveOthers();
        twelveOthersInEachCond();
        notEndsWithItsOne();
        anyWordBehindKind();
        signsOfNumbers();
        alertsOfRulesAbove();
        noToken();
        theEnd();
        numbersOfCount();
        numbersOfSum();
        numbersOfTime();
        numbersOfBits();
        oneTooMany();
        toldAlready();
        firstAlongTheText();
        leastKind();
        Kit.finish("TextEdgesTest");
    }

    private static String blanks(int count) {
        return " ".repeat(count);
    }

    /** Rules a, b, .. of some number, of 33 bytes each. */
    private static String rules(int count) {
        StringBuilder text = new StringBuilder();
        for (int k = 0; k < count; k++) {
            text.append("rule ").append((char) ('a' + k)).append(" count 1 of has x within 1;");
        }
        return text.toString();
    }

    private static void atMost2000Bytes() {
        Kit.sentence(4, RULES, "The TEXT of RULES has at most 2000 bytes.");
        Kit.fine("", 0);
        Kit.fine(blanks(1999), 0);
        Kit.fine(blanks(2000), 0);
        Kit.faulty(blanks(2001), 1, 2000);
        Kit.fine(RULE + blanks(2000 - RULE.length()), 1);
        Kit.faulty(RULE + blanks(2001 - RULE.length()), 1, 2000);
        Kit.fine(blanks(2000 - RULE.length()) + RULE, 1);
        Kit.faulty(blanks(2001 - RULE.length()) + RULE, 1, 2000);
        Kit.faulty(blanks(2100 - RULE.length()) + RULE, 1, 2000);
    }

    private static void blanks() {
        Kit.sentence(4, RULES, "TOKENS, between them blanks (10, 32)");
        Kit.fine("\n \nrule\na  count 1\n\nof has x within 1 \n;\n ", 1);
        for (int octet : new int[] {0, 9, 11, 12, 13, 31, 127, 128, 160, 255}) {
            Kit.faulty("rule" + (char) octet + "a", 1, 4);
        }
        // blanks are not needed where the tokens end without them
        Kit.fine("rule a count 1 of(a=1)or(c in 1.2.3.4/8)and d=\"x\"or not(kind=z)by u,v within 1;", 1);
    }

    private static void words() {
        Kit.sentence(4, RULES, "WORDS: small letters, 8 at most");
        Kit.fineCond("has a");
        Kit.fineCond("has z");
        Kit.fineCond("has abcdefgh");
        Kit.faultyCond("has abcdefghi", 1, 4);
        Kit.fineCond("kind = abcdefgh");
        Kit.faultyCond("kind = abcdefghi", 1, 7);
        Kit.fine("rule abcdefgh count 1 of has x within 1;", 1);
        Kit.faulty("rule abcdefghi count 1 of has x within 1;", 1, 5);
        Kit.faultyCond("has `", 1, 4);
        Kit.faultyCond("has {", 1, 4);
        Kit.faultyCond("has A", 1, 4);
        Kit.faultyCond("has aZ", 1, 5);
        Kit.faultyCond("has a_b", 1, 5);
        // the letters of a word that differ in the eighth alone
        Kit.fine("rule abcdefgh count 1 of has x within 1;rule abcdefgi count 1 of alert abcdefgh within 1;", 2);
    }

    private static void numberDigits() {
        Kit.sentence(4, RULES, "NUMBERS: perhaps -, digits, 10 at most, a value of 32 bits");
        Kit.fineCond("a = 0");
        Kit.fineCond("a = 0000000001");
        Kit.faultyCond("a = 00000000001", 1, 4);
        Kit.fineCond("a = -0000000001");
        Kit.faultyCond("a = -00000000001", 1, 4);
        Kit.fineCond("a = 1234567890");
        Kit.faultyCond("a = 12345678901", 1, 4);
        Kit.faultyCond("a = 99999999999999999999999999999", 1, 4);
        Kit.fine("rule a count 0000001000 of has x within 0001000000;", 1);
        Kit.faultyCond("a = /", 2, 4);
        Kit.faultyCond("a = :", 1, 4);
    }

    private static void numberValues() {
        Kit.sentence(4, RULES, "NUMBERS: perhaps -, digits, 10 at most, a value of 32 bits");
        Kit.fineCond("a = 2147483647");
        Kit.faultyCond("a = 2147483648", 1, 4);
        Kit.faultyCond("a = 4294967296", 1, 4);
        Kit.faultyCond("a = 4294967297", 1, 4);
        Kit.faultyCond("a = 9999999999", 1, 4);
        Kit.fineCond("a = -2147483648");
        Kit.faultyCond("a = -2147483649", 1, 4);
        Kit.faultyCond("a = -4294967295", 1, 4);
        for (int value : new int[] {0, -1, Integer.MAX_VALUE, Integer.MIN_VALUE}) {
            WatchHouse house = Kit.houseOf(Kit.cond("a = " + value));
            Kit.take(house, Kit.record(0, "k", "a", value), Kit.record(0, "k", "a", value + 1));
            Kit.due("found at " + value + " alone", house.rule(0, 1), 1);
            Kit.due("found there", house.alert(0, 3), 0);
        }
    }

    private static void numberSign() {
        Kit.sentence(4, RULES, "NUMBERS: perhaps -, digits, 10 at most, a value of 32 bits");
        Kit.fineCond("a = -0");
        Kit.fineCond("a=-1");
        Kit.faultyCond("a = -", 1, 4);
        Kit.faultyCond("a = - 1", 1, 4);
        Kit.faultyCond("a = --1", 1, 4);
        Kit.faultyCond("a = +1", 1, 4);
        Kit.faultyCond("a = 1-", 1, 5);
        Kit.faultyCond("a = 1-1", 2, 5);
        Kit.faultyCond("a = -x", 1, 4);
        WatchHouse house = Kit.houseOf(Kit.cond("a = -0"));
        Kit.take(house, Kit.record(0, "k", "a", 0));
        Kit.due("-0 is 0", house.count(3), 1);
    }

    private static void texts() {
        Kit.sentence(4, RULES, "TEXTS: \" , bytes 32 .. 126 but \", 24 at most, \"");
        Kit.fineCond("a = \"\"");
        Kit.fineCond("a = \"123456789012345678901234\"");
        Kit.faultyCond("a = \"1234567890123456789012345\"", 1, 4);
        Kit.fineCond("a like \"123456789012345678901234\"");
        Kit.faultyCond("a like \"1234567890123456789012345\"", 1, 7);
        Kit.fineCond("a = \"x\"or a = \"\"and a != \"y\"");
        WatchHouse house = Kit.houseOf(Kit.cond("a = \"\" or a = \"123456789012345678901234\""));
        Kit.take(house, Kit.record(0, "k", "a", ""), Kit.record(0, "k", "a", "123456789012345678901234"),
                Kit.record(0, "k", "a", "12345678901234567890123"), Kit.record(0, "k", "a", "123456789012345678901235"));
        Kit.due("the empty one and the longest", house.count(3), 2);
    }

    private static void textBytes() {
        Kit.sentence(4, RULES, "TEXTS: \" , bytes 32 .. 126 but \", 24 at most, \"");
        Kit.fineCond("a = \" \"");
        Kit.fineCond("a = \"~\"");
        Kit.fineCond("a = \"!#A{;\\'\"");
        for (int octet : new int[] {0, 10, 31, 127, 128, 255}) {
            Kit.faultyCond("a = \"x" + (char) octet + "\"", 1, 4);
        }
        Kit.faultyCond("a = \"12345678901234567890123" + (char) 127 + "\"", 1, 4);
    }

    private static void addresses() {
        Kit.sentence(4, RULES, "ADDRESSES: four numbers 0 to 255 of one to three digits with . between");
        Kit.fineCond("a = 0.0.0.0");
        Kit.fineCond("a = 255.255.255.255");
        Kit.fineCond("a = 001.02.3.099");
        String[] bad = {"256.0.0.0", "0.256.0.0", "0.0.256.0", "0.0.0.256", "999.1.1.1", "0001.2.3.4", "1.2.3.0004",
            "1.0002.3.4", "1.2.3", "1.2", "1.", "1.2.3.", "1.2.3.4.5", "1.2.3.4.", "1..3.4", "1...4", "1.2.3.4..",
            "1.2.3.1000", "1.2.3.99999999999999"};
        for (String address : bad) {
            Kit.faultyCond("a = " + address, 1, 4);
        }
        WatchHouse house = Kit.houseOf(Kit.cond("a = 0.0.0.0 or a = 255.255.255.255 or a = 010.002.3.004"));
        Kit.take(house, Kit.record(0, "k", "a", Kit.address(0, 0, 0, 0)), Kit.record(0, "k", "a", Kit.address(255, 255, 255, 255)),
                Kit.record(0, "k", "a", Kit.address(10, 2, 3, 4)), Kit.record(0, "k", "a", Kit.address(0, 0, 0, 1)),
                Kit.record(0, "k", "a", Kit.address(255, 255, 255, 254)), Kit.record(0, "k", "a", Kit.address(4, 3, 2, 10)));
        Kit.due("the three told", house.count(3), 3);
    }

    private static void signs() {
        Kit.sentence(4, RULES, "SIGNS ( ) , ; / = != < <= > >= .");
        Kit.fineCond("a=1 or a!=1 or a<1 or a<=1 or a>1 or a>=1 or(a in 1.1.1.1/1)");
        Kit.faultyCond("a ! 1", 1, 2);
        Kit.faultyCond("a ! = 1", 1, 2);
        Kit.faultyCond("a !", 1, 2);
        Kit.faultyCond("a < = 1", 2, 4);
        Kit.faultyCond("a > = 1", 2, 4);
        Kit.faultyCond("a <== 1", 2, 4);
        Kit.faultyCond("a == 1", 2, 3);
        Kit.faultyCond("a =! 1", 1, 3);
        Kit.faultyCond("a != = 1", 2, 5);
        Kit.faultyCond("a => 1", 2, 3);
        Kit.faultyCond("a <> 1", 2, 3);
        for (char sign : "#$%&'*+.:?@[\\]^_`{|}~".toCharArray()) {
            Kit.faultyCond("a " + sign + " 1", 1, 2);
        }
    }

    private static void wordsGoOn() {
        Kit.sentence(4, RULES, GOES_ON);
        Kit.faultyCond("has a1", 1, 4);
        Kit.faultyCond("has a0b", 1, 4);
        Kit.faultyCond("has abcdefg9", 1, 4);
        Kit.faultyCond("has abcdefgh9", 1, 4);
        Kit.faulty("rule a count1 of has x within 1;", 1, 7);
        Kit.faulty("rulea", 2, 0);
        Kit.faultyCond("has a.b", 1, 5);
        Kit.faultyCond("has a-1", 2, 5);
        Kit.faultyCond("has a\"b\"", 2, 5);
        Kit.fineCond("has a\nor has b");
    }

    private static void numbersGoOn() {
        Kit.sentence(4, RULES, GOES_ON);
        Kit.faulty("rule 1a count", 1, 5);
        Kit.faultyCond("a = 1x", 1, 4);
        Kit.faultyCond("a = -1x", 1, 4);
        Kit.faultyCond("a = 1or has b", 1, 4);
        Kit.faulty("rule a count 1of has x within 1;", 1, 13);
        Kit.faultyCond("a = 1X", 1, 5);
        Kit.faultyCond("a = 1\"x\"", 2, 5);
        Kit.fineCond("(a=1)or(a=-1)");
    }

    private static void addressesGoOn() {
        Kit.sentence(4, RULES, GOES_ON);
        Kit.faultyCond("a = 1.2.3.4x", 1, 4);
        Kit.faultyCond("a = 1.x.3.4", 1, 4);
        Kit.faultyCond("a = 1.2.3.x", 1, 4);
        Kit.faultyCond("a = 1.2.3.4and has b", 1, 4);
        Kit.faultyCond("a = 1.2.3.4.", 1, 4);
        Kit.faultyCond("a = 1.2.3.-4", 1, 4);
        Kit.faultyCond("a = 1.2.3. 4", 1, 4);
        Kit.faultyCond("a = 1.2.3.4X", 1, 11);
        Kit.faultyCond("a = 1.2.3.4-", 1, 11);
        Kit.fineCond("a = 1.2.3.4\nand(a in 1.2.3.4/8)and has b");
    }

    private static void textsEnd() {
        Kit.sentence(4, RULES, GOES_ON);
        Kit.faultyCond("a = \"b", 1, 4);
        Kit.faultyCond("a = \"", 1, 4);
        Kit.faulty("rule a count 1 of a = \"", 1, 22);
        Kit.faulty("rule a count 1 of a = \"b", 1, 22);
        Kit.faulty("rule a count 1 of a = \"b\"", 2, 25);
        Kit.faultyCond("a = \"1234567890123456789012345", 1, 4);
        Kit.faultyCond("a = \"b\"\"", 1, 7);
        Kit.faultyCond("a = \"b\"\"c\"", 2, 7);
        Kit.faultyCond("a = 'b'", 1, 4);
    }

    private static void dotsBegin() {
        Kit.sentence(4, RULES, GOES_ON);
        Kit.faultyCond("a = 1.", 1, 4);
        Kit.faultyCond("a = .1.2.3", 1, 4);
        Kit.faultyCond("a = 1 .2.3.4", 1, 6);
        // with a - ahead the number ends at the . , and that is no token
        Kit.faultyCond("a = -1.2.3.4", 1, 6);
        Kit.faultyCond("a = -1.", 1, 6);
        Kit.faulty("rule a count 1.2.3.4", 2, 13);
        Kit.faulty("rule a count 1.2.3", 1, 13);
        Kit.faultyCond("a = 12345678901.2.3.4", 1, 4);
    }

    private static void twelveRules() {
        Kit.sentence(4, RULES, "TEXT: RULES, 12 at most.");
        Kit.fine(rules(0), 0);
        Kit.fine(rules(1), 1);
        Kit.fine(rules(12), 12);
        Kit.faulty(rules(13), 4, 12 * RULE.length());
    }

    private static void quotedWords() {
        Kit.sentence(4, RULES, "NAME: a WORD that stands nowhere here in quotes");
        for (String word : QUOTED) {
            Kit.faulty("rule " + word + " count 1 of has x within 1;", 2, 5);
            Kit.faulty("rule a sum 1 " + word + " of has x within 1;", 2, 13);
            Kit.faulty("rule a count 1 of has x by " + word + " within 1;", 2, 27);
            Kit.faultyCond("has " + word, 2, 4);
            Kit.faultyCond("alert " + word, 2, 6);
            String less = word.substring(1);
            String more = less + "z";
            Kit.fine("rule " + less + " count 1 of has " + more + " by " + less + ", " + more + " within 1;", 1);
        }
        Kit.fine("rule name count 1 of has text by cond, what, cmp within 1;", 1);
    }

    private static void ruleNames() {
        Kit.sentence(4, RULES, "of a RULE no two the same");
        Kit.faulty(RULE + RULE, 5, RULE.length() + 5);
        Kit.faulty(rules(12).replace("rule l", "rule a"), 5, 11 * RULE.length() + 5);
        Kit.faulty(rules(12).replace("rule l", "rule k"), 5, 11 * RULE.length() + 5);
        Kit.fine(RULE + "rule aa count 1 of has x within 1;", 2);
        Kit.fine("rule u distinct 1 u of has u by u within 1;", 1);
        WatchHouse house = Kit.houseOf(RULE);
        Kit.due("those of an earlier text do not count", Kit.rules(house, RULE), 1);
    }

    private static void threeNamesBehindBy() {
        Kit.sentence(4, RULES, "behind by 3 at most");
        Kit.fine("rule a count 1 of has x by u within 1;", 1);
        Kit.fine("rule a count 1 of has x by u, v, w within 1;", 1);
        Kit.faulty("rule a count 1 of has x by u, v, w, y within 1;", 4, 36);
        Kit.faulty("rule a count 1 of has x by u, v, w, within 1;", 2, 36);
        Kit.faulty("rule a count 1 of has x by within 1;", 2, 27);
        Kit.faulty("rule a count 1 of has x by u, within 1;", 2, 30);
        Kit.faulty("rule a count 1 of has x by u v within 1;", 2, 29);
    }

    private static void noTwoBehindBy() {
        Kit.sentence(4, RULES, "no two the same.");
        Kit.faulty("rule a count 1 of has x by u, u within 1;", 5, 30);
        Kit.faulty("rule a count 1 of has x by u, v, u within 1;", 5, 33);
        Kit.faulty("rule a count 1 of has x by u, v, v within 1;", 5, 33);
        Kit.fine("rule a count 1 of has x by u, uu, uuu within 1;", 1);
        Kit.fine("rule a count 1 of has x by u, v within 1;rule b count 1 of has x by v, u within 1;", 2);
    }

    private static String chain(int conds) {
        return "rule a chain has x" + " then has x".repeat(conds - 1);
    }

    private static void fiveConds() {
        Kit.sentence(4, RULES, "(5 COND with then between at most)");
        Kit.fine(chain(1) + " within 1;", 1);
        Kit.fine(chain(5) + " within 1;", 1);
        Kit.fine(chain(5) + " unless has y within 1;", 1);
        Kit.faulty(chain(6) + " within 1;", 4, chain(5).length() + 1);
        Kit.faulty(chain(5) + " then", 4, chain(5).length() + 1);
        Kit.faulty(chain(5) + " unless has y then has x within 1;", 2, chain(5).length() + 14);
        Kit.faulty(chain(1) + " unless has y unless has x within 1;", 2, chain(1).length() + 14);
        Kit.faulty("rule a chain within 1;", 2, 13);
    }

    private static void lackHasTwo() {
        Kit.sentence(4, RULES, "'lack' COND 'then' COND.");
        Kit.fine("rule a lack has x then has y within 1;", 1);
        Kit.faulty("rule a lack has x within 1;", 2, 18);
        Kit.faulty("rule a lack has x then has y then has z within 1;", 2, 29);
        Kit.faulty("rule a lack has x then has y unless has z within 1;", 2, 29);
    }

    private static void twelveOthers() {
        Kit.sentence(4, RULES, "( and 'not' (up to the end of its ONE) lie in 12 others at most.");
        String open = "(".repeat(13);
        String close = ")".repeat(13);
        Kit.fineCond(open + "has x" + close);
        Kit.faultyCond(open + "(has x)" + close, 4, 13);
        Kit.faultyCond(open + "not has x" + close, 4, 13);
        Kit.fineCond("not ".repeat(13) + "has x");
        Kit.faultyCond("not ".repeat(14) + "has x", 4, 52);
        Kit.faultyCond("not ".repeat(13) + "(has x)", 4, 52);
        Kit.fineCond("not (".repeat(6) + "not has x" + ")".repeat(6));
        Kit.faultyCond("not (".repeat(6) + "not not has x" + ")".repeat(6), 4, 34);
        Kit.faultyCond("not ".repeat(12) + "(not has x)", 4, 49);
        // all of them are looked through
        WatchHouse house = Kit.houseOf(Kit.cond("not ".repeat(13) + "has x") + "rule b count 1 of " + open + "has x or has y"
                + close + " and has z within 1;");
        Kit.take(house, Kit.record(0, "k", "x", 1, "z", 1), Kit.record(0, "k", "y", 1, "z", 1), Kit.record(0, "k", "z", 1));
        Kit.due("thirteen nots", house.rule(0, 1), 2);
        Kit.due("thirteen (", house.rule(1, 1), 2);
    }

    private static void twelveOthersInEachCond() {
        Kit.sentence(4, RULES, "( and 'not' (up to the end of its ONE) lie in 12 others at most.");
        String[] heads = {"count 1 of ", "distinct 1 f of ", "sum 1 f of ", "chain ", "chain has x then ",
            "chain has x then has x then has x then has x then ", "chain has x unless ", "lack ", "lack has x then "};
        for (String head : heads) {
            String begin = "rule a " + head;
            String tail = head.equals("lack ") ? " then has y within 1;" : " within 1;";
            Kit.fine(begin + "(".repeat(13) + "has x" + ")".repeat(13) + tail, 1);
            Kit.faulty(begin + "(".repeat(14) + "has x" + ")".repeat(14) + tail, 4, begin.length() + 13);
            Kit.fine(begin + "not ".repeat(13) + "has x" + tail, 1);
            Kit.faulty(begin + "not ".repeat(14) + "has x" + tail, 4, begin.length() + 52);
        }
    }

    private static void notEndsWithItsOne() {
        Kit.sentence(4, RULES, "( and 'not' (up to the end of its ONE) lie in 12 others at most.");
        String open = "(".repeat(13);
        String close = ")".repeat(13);
        Kit.fineCond("not has x and ".repeat(20) + "has x");
        Kit.fineCond("(has x) or ".repeat(20) + "not (has x)");
        Kit.fineCond(open + "has x" + close + " and " + open + "has x" + close);
        Kit.fineCond("not ".repeat(13) + "has x and " + open + "has x" + close);
        Kit.fineCond("(".repeat(12) + "(has x) and not has y" + ")".repeat(12));
        Kit.faultyCond("(".repeat(12) + "(has x) and not not has y" + ")".repeat(12), 4, 28);
        // each cond of a chain, and its unless, is counted anew
        Kit.fine("rule a chain " + open + "has x" + close + " then " + open + "has x" + close + " unless " + open + "has x"
                + close + " within 1;", 1);
    }

    private static void anyWordBehindKind() {
        Kit.sentence(4, RULES, "(behind kind = any WORD.)");
        for (String word : QUOTED) {
            Kit.fineCond("kind = " + word);
            WatchHouse house = Kit.houseOf(Kit.cond("kind = " + word));
            Kit.take(house, Kit.record(0, word), Kit.record(0, word + "x"));
            Kit.due("found at the kind " + word + " alone", house.alert(0, 3), 0);
            Kit.due("found once", house.rule(0, 1), 1);
        }
        Kit.faultyCond("kind = 1", 2, 7);
        Kit.faultyCond("kind = \"x\"", 2, 7);
        Kit.faultyCond("kind = (", 2, 7);
        Kit.faultyCond("kind != x", 2, 5);
    }

    private static void signsOfNumbers() {
        Kit.sentence(4, RULES, "CMP: = != and, if the VALUE is a NUMBER, also < <= > >= .");
        for (String sign : new String[] {"=", "!="}) {
            Kit.fineCond("a " + sign + " 1");
            Kit.fineCond("a " + sign + " \"x\"");
            Kit.fineCond("a " + sign + " 1.2.3.4");
        }
        for (String sign : new String[] {"<", "<=", ">", ">="}) {
            Kit.fineCond("a " + sign + " 1");
            Kit.faultyCond("a " + sign + " \"x\"", 2, 3 + sign.length());
            Kit.faultyCond("a " + sign + " 1.2.3.4", 2, 3 + sign.length());
            Kit.faultyCond("a " + sign + " b", 2, 3 + sign.length());
        }
    }

    private static void alertsOfRulesAbove() {
        Kit.sentence(4, RULES, "'alert' NAME (of a RULE above)");
        Kit.fine(RULE + "rule b count 1 of alert a within 1;", 2);
        Kit.fine(rules(11) + "rule l count 1 of alert a or alert k within 1;", 12);
        Kit.faulty("rule a count 1 of alert a within 1;", 5, 24);
        Kit.faulty("rule a count 1 of alert b within 1; rule b count 1 of has x within 1;", 5, 24);
        Kit.faulty(RULE + "rule b count 1 of alert aa within 1;", 5, RULE.length() + 24);
        WatchHouse house = Kit.houseOf(RULE);
        Kit.due("one of an earlier text is not above", Kit.rules(house, "rule b count 1 of alert a within 1;"), -25);
    }

    private static void noToken() {
        Kit.sentence(4, RULES, "1: no TOKEN (at its first byte)");
        Kit.faulty("!", 1, 0);
        Kit.faulty(" \n!", 1, 2);
        Kit.faulty("rule abcdefghi", 1, 5);
        Kit.faulty("rule a count 12345678901", 1, 13);
        Kit.faulty(RULE + "!", 1, RULE.length());
        Kit.faulty(blanks(1999) + "!", 1, 1999);
    }

    private static void theEnd() {
        Kit.sentence(4, RULES, "2: a TOKEN that can't come (the end, at how many bytes there are)");
        String text = "rule a chain has x then a in 1.2.3.4/5 unless not (has y) by u, v within 1 quiet 2;";
        Kit.fine(text, 1);
        Kit.fine(text.substring(0, 0), 0);
        for (int length = 1; length < text.length(); length++) {
            WatchHouse house = new WatchHouse();
            String cut = text.substring(0, length);
            int answer = Kit.rules(house, cut);
            Kit.due("a text cut at " + length + " is none", answer < 0, true);
            Kit.due("a text cut behind a blank", Kit.rules(house, cut + " "), answer == -1 - length ? answer - 1 : answer);
        }
        Kit.faulty("rule", 2, 4);
        Kit.faulty("rule a count 1 of has x within 1", 2, 32);
        Kit.faulty("rule" + blanks(1996), 2, 2000);
        Kit.faulty(RULE + ";", 2, RULE.length());
        Kit.faulty(";", 2, 0);
        Kit.faulty(blanks(1999) + ";", 2, 1999);
    }

    private static void numbersOfCount() {
        Kit.sentence(4, RULES, NUMBERS);
        for (String head : new String[] {"rule a count ", "rule a distinct "}) {
            String tail = (head.contains("distinct") ? " f" : "") + " of has x within 1;";
            Kit.fine(head + 1 + tail, 1);
            Kit.fine(head + 1000 + tail, 1);
            Kit.faulty(head + 0 + tail, 3, head.length());
            Kit.faulty(head + 1001 + tail, 3, head.length());
            Kit.faulty(head + -1 + tail, 3, head.length());
            Kit.faulty(head + Integer.MAX_VALUE + tail, 3, head.length());
            Kit.faulty(head + Integer.MIN_VALUE + tail, 3, head.length());
        }
    }

    private static void numbersOfSum() {
        Kit.sentence(4, RULES, NUMBERS);
        Kit.fine("rule a sum 1 f of has x within 1;", 1);
        Kit.fine("rule a sum 2147483647 f of has x within 1;", 1);
        Kit.faulty("rule a sum 0 f of has x within 1;", 3, 11);
        Kit.faulty("rule a sum -1 f of has x within 1;", 3, 11);
        Kit.faulty("rule a sum -2147483648 f of has x within 1;", 3, 11);
        Kit.faulty("rule a sum 2147483648 f of has x within 1;", 1, 11);
    }

    private static void numbersOfTime() {
        Kit.sentence(4, RULES, NUMBERS);
        String head = "rule a count 1 of has x within ";
        Kit.fine(head + "1;", 1);
        Kit.fine(head + "1000000;", 1);
        Kit.faulty(head + "0;", 3, head.length());
        Kit.faulty(head + "-1;", 3, head.length());
        Kit.faulty(head + "1000001;", 3, head.length());
        Kit.faulty(head + "2147483647;", 3, head.length());
        String quiet = head + "1 quiet ";
        Kit.fine(quiet + "0;", 1);
        Kit.fine(quiet + "1000000;", 1);
        Kit.faulty(quiet + "-1;", 3, quiet.length());
        Kit.faulty(quiet + "1000001;", 3, quiet.length());
        Kit.faulty(quiet + "-2147483648;", 3, quiet.length());
    }

    private static void numbersOfBits() {
        Kit.sentence(4, RULES, NUMBERS);
        Kit.fineCond("a in 1.2.3.4/0");
        Kit.fineCond("a in 1.2.3.4/32");
        Kit.faultyCond("a in 1.2.3.4/33", 3, 13);
        Kit.faultyCond("a in 1.2.3.4/-1", 3, 13);
        Kit.faultyCond("a in 1.2.3.4 / 2147483647", 3, 15);
        // a VALUE may be any NUMBER
        Kit.fineCond("a = 0 or a = -1 or a = 1001 or a < -2147483648 or a > 2147483647");
    }

    private static void oneTooMany() {
        Kit.sentence(4, RULES, TOO_MANY);
        int twelve = 12 * RULE.length();
        Kit.faulty(rules(12) + " rule m count 1 of has x within 1;", 4, twelve + 1);
        Kit.faulty(rules(12) + "rule", 4, twelve);
        Kit.faulty(rules(12) + "rule a", 4, twelve);
        Kit.faulty(rules(12) + "a", 2, twelve);
        Kit.faulty(rules(12) + "!", 1, twelve);
        Kit.faulty("rule a count 1 of has x by u,v,w,y", 4, 33);
        Kit.faulty(chain(5) + "\nthen", 4, chain(5).length() + 1);
        Kit.faultyCond("(".repeat(14), 4, 13);
        Kit.faultyCond("not ".repeat(14), 4, 52);
    }

    private static void toldAlready() {
        Kit.sentence(4, RULES, TOLD);
        Kit.faulty(RULE + "rule a", 5, RULE.length() + 5);
        Kit.faulty("rule a count 1 of has x by u,u", 5, 29);
        Kit.faulty("rule a count 1 of alert a", 5, 24);
        Kit.faulty(RULE + "rule b lack alert a then alert c", 5, RULE.length() + 31);
        Kit.faulty(RULE + "rule b chain alert a unless alert b", 5, RULE.length() + 34);
        Kit.fine(RULE + "rule b chain alert a unless alert a by a, b within 1;", 2);
    }

    private static void firstAlongTheText() {
        Kit.sentence(4, RULES, "The first along the TEXT, of one TOKEN the least kind.");
        Kit.faulty("rule a count 0 of ? within 0", 3, 13);
        Kit.faulty("rule a count 1 of ? within 0", 1, 18);
        Kit.faulty("rule a count 0! of has x", 3, 13);
        Kit.faulty(RULE + " rule a! count 1", 5, RULE.length() + 6);
        Kit.faulty("rule a of ! rule a", 2, 7);
        Kit.faulty("rule a count 1001 of alert a", 3, 13);
    }

    private static void leastKind() {
        Kit.sentence(4, RULES, "The first along the TEXT, of one TOKEN the least kind.");
        // 1 ahead of 3, of 4 and of 5
        Kit.faulty("rule a count 99999999999 of has x within 1;", 1, 13);
        Kit.faulty("rule a count 1 of has x by u, v, w, ! within 1;", 1, 36);
        Kit.faulty("rule a count 1 of has x by u, uuuuuuuuu within 1;", 1, 30);
        // 2 ahead of 4
        Kit.faulty("rule a count 1 of has x by u, v, w, of within 1;", 2, 36);
        // 4 ahead of 5
        Kit.faulty("rule a count 1 of has x by u, v, w, u within 1;", 4, 36);
        Kit.faulty("rule a count 1 of has x by u, v, w, w within 1;", 4, 36);
    }
}
