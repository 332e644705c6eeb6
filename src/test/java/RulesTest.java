/** Promises 4 and 5: the text of rules, its tokens, its grammar, its faults. */
public final class RulesTest {
    private static final String BEGIN = "rule a count 1 of ";
    private static final String TAIL = " within 1;";

    public static void main(String[] args) {
        fineTexts();
        tokens();
        grammar();
        numbers();
        tooMany();
        twice();
        leastKindOfOneToken();
        tooLong();
        wordsAcross();
        numbersAcross();
        addressesAcross();
        textsAcross();
        signsAcross();
        cutOff();
        whatStays();
        whatIsForgotten();
        Kit.finish("RulesTest");
    }

    private static String cond(String cond) {
        return BEGIN + cond + TAIL;
    }

    /** A cond with a fault at a place within it. */
    private static void badCond(String cond, int kind, int place) {
        Kit.faulty(cond(cond), kind, BEGIN.length() + place);
    }

    private static void fineTexts() {
        Kit.fine("", 0);
        Kit.fine(" \n \n", 0);
        Kit.fine("rule a count 1 of has x within 1;", 1);
        Kit.fine("rule a count 1000 of has x by u,v,w within 1000000 quiet 1000000;", 1);
        Kit.fine("rule a distinct 1 x of has x within 1 quiet 0;rule b sum 2147483647 x of has x within 1;", 2);
        Kit.fine("rule a chain has x within 1;\nrule b chain has x then has y then has z then has x then has y"
                + " unless alert a by q within 7;\nrule c lack alert b then alert a by q within 7;", 3);
        Kit.fine(cond("kind=x and has y or not(z<1)and not not w!=\"\""), 1);
        Kit.fine(cond("kind = rule or kind = kind or kind = within"), 1);
        Kit.fine(cond("a like \"*?\" and b in 1.2.3.4/0 and b in 255.255.255.255/32"), 1);
        Kit.fine(cond("a = -2147483648 or a = 2147483647 or a = 0000000001 or a = -0"), 1);
        Kit.fine(cond("a = 0.0.0.0 or a = 001.02.3.255 or a != 1.1.1.1"), 1);
        Kit.fine(cond("a < 1 or a <= 1 or a > 1 or a >= 1 or a=1"), 1);
        Kit.fine(cond("abcdefgh = \"123456789012345678901234\""), 1);
        Kit.fine(cond("a = \"\" or a = \" ~!#;,()\""), 1);
        Kit.fine("rule rules count 1 of has ins within 1;", 1);
    }

    private static void tokens() {
        Kit.faulty("!", 1, 0);
        Kit.faulty("\t", 1, 0);
        Kit.faulty("\r", 1, 0);
        Kit.faulty("rule A", 1, 5);
        Kit.faulty("rule abcdefghi count", 1, 5);
        Kit.faulty("rule a1 count", 1, 5);
        Kit.faulty("rule 1a count", 1, 5);
        Kit.faulty("rule a_b", 1, 6);
        badCond("a ! 1", 1, 2);
        badCond("a = -", 1, 4);
        badCond("a = - 1", 1, 4);
        badCond("a = --1", 1, 4);
        badCond("a = 12345678901", 1, 4);
        badCond("a = 00000000001", 1, 4);
        badCond("a = 2147483648", 1, 4);
        badCond("a = -2147483649", 1, 4);
        badCond("a = 1x", 1, 4);
        badCond("a = -1x", 1, 4);
        badCond("a = +1", 1, 4);
        badCond("a = 1.2.3", 1, 4);
        badCond("a = 1.2.3.4.5", 1, 4);
        badCond("a = 1.2.3.4.", 1, 4);
        badCond("a = 1.2.3.256", 1, 4);
        badCond("a = 1.2.3.0001", 1, 4);
        badCond("a = 1..3.4", 1, 4);
        badCond("a = 1.2.3.4x", 1, 4);
        badCond("a = 1.x.3.4", 1, 4);
        badCond("a = 1. 2.3.4", 1, 4);
        badCond("a = .1.2.3", 1, 4);
        badCond("a = -1.2.3.4", 1, 6);
        badCond("a = 1 .2", 1, 6);
        badCond("a = \"b", 1, 4);
        badCond("a = \"1234567890123456789012345\"", 1, 4);
        badCond("a = \"b\nc\"", 1, 4);
        badCond("a = \"b\u007fc\"", 1, 4);
        badCond("a = \"b\u00e9c\"", 1, 4);
        badCond("a = 'b'", 1, 4);
        badCond("a = \"b\"\"", 1, 7);
        // of a sign as much as can be, and no more
        badCond("a <== 1", 2, 4);
        badCond("a == 1", 2, 3);
        badCond("a =! 1", 1, 3);
        badCond("a != = 1", 2, 5);
        badCond("a => 1", 2, 3);
        badCond("a <> 1", 2, 3);
    }

    private static void grammar() {
        Kit.faulty("rule", 2, 4);
        Kit.faulty("rule ", 2, 5);
        Kit.faulty("rule a", 2, 6);
        Kit.faulty("rule a count", 2, 12);
        Kit.faulty("rule a count 1 of has x within 1", 2, 32);
        Kit.faulty("rule a count 1 of has x;", 2, 23);
        Kit.faulty(";", 2, 0);
        Kit.faulty("a", 2, 0);
        Kit.faulty("rule count count 1 of has x within 1;", 2, 5);
        Kit.faulty("rule \"a\" count 1 of has x within 1;", 2, 5);
        Kit.faulty("rule a of 1 of has x within 1;", 2, 7);
        Kit.faulty("rule a within 1;", 2, 7);
        Kit.faulty("rule a by u within 1;", 2, 7);
        Kit.faulty("rule within 1;", 2, 5);
        Kit.faulty("rule a count x of has x within 1;", 2, 13);
        Kit.faulty("rule a count 1 x of has x within 1;", 2, 15);
        Kit.faulty("rule a distinct 1 of has x within 1;", 2, 18);
        Kit.faulty("rule a distinct x 1 of has x within 1;", 2, 16);
        Kit.faulty("rule a distinct 1 in of has x within 1;", 2, 18);
        Kit.faulty("rule a sum 1 1 of has x within 1;", 2, 13);
        Kit.faulty("rule a chain then has x within 1;", 2, 13);
        Kit.faulty("rule a chain has x unless within 1;", 2, 26);
        Kit.faulty("rule a chain has x unless has y then has x within 1;", 2, 32);
        Kit.faulty("rule a chain has x unless has y unless has x within 1;", 2, 32);
        Kit.faulty("rule a lack has x within 1;", 2, 18);
        Kit.faulty("rule a lack has x then has y then has z within 1;", 2, 29);
        Kit.faulty("rule a lack has x then has y unless has z within 1;", 2, 29);
        Kit.faulty("rule a count 1 of has x by within 1;", 2, 27);
        Kit.faulty("rule a count 1 of has x by u v within 1;", 2, 29);
        Kit.faulty("rule a count 1 of has x by u, within 1;", 2, 30);
        Kit.faulty("rule a count 1 of has x by 1 within 1;", 2, 27);
        Kit.faulty("rule a count 1 of has x within x;", 2, 31);
        Kit.faulty("rule a count 1 of has x within 1 quiet;", 2, 38);
        Kit.faulty("rule a count 1 of has x quiet 1 within 1;", 2, 24);
        Kit.faulty("rule a count 1 of has x within 1 by u;", 2, 33);
        Kit.faulty("rule a count 1 of has x within 1;;", 2, 33);
        badCond("", 2, 1);
        badCond("has", 2, 4);
        badCond("has of", 2, 4);
        badCond("has \"x\"", 2, 4);
        badCond("kind x", 2, 5);
        badCond("kind != x", 2, 5);
        badCond("kind = \"x\"", 2, 7);
        badCond("kind = 1", 2, 7);
        badCond("alert", 2, 6);
        badCond("alert 1", 2, 6);
        badCond("a", 2, 2);
        badCond("a like 1", 2, 7);
        badCond("a like b", 2, 7);
        badCond("a in 1/2", 2, 5);
        badCond("a in 1.2.3.4", 2, 13);
        badCond("a in 1.2.3.4/x", 2, 13);
        badCond("a = b", 2, 4);
        badCond("a = has", 2, 4);
        badCond("a =", 2, 4);
        badCond("a like", 2, 7);
        badCond("a <", 2, 4);
        badCond("a = and has x", 2, 4);
        badCond("a < \"x\"", 2, 4);
        badCond("a >= 1.2.3.4", 2, 5);
        badCond("a <= x", 2, 5);
        badCond("1 = a", 2, 0);
        badCond("(has x", 2, 7);
        badCond("has x)", 2, 5);
        badCond("()", 2, 1);
        badCond("not", 2, 4);
        badCond("has x and", 2, 10);
        badCond("has x or or has y", 2, 9);
        badCond("has x has y", 2, 6);
        badCond("and has x", 2, 0);
    }

    private static void numbers() {
        Kit.faulty("rule a count 0 of has x within 1;", 3, 13);
        Kit.faulty("rule a count -1 of has x within 1;", 3, 13);
        Kit.faulty("rule a count 1001 of has x within 1;", 3, 13);
        Kit.faulty("rule a distinct 0 x of has x within 1;", 3, 16);
        Kit.faulty("rule a distinct 1001 x of has x within 1;", 3, 16);
        Kit.fine("rule a distinct 1000 x of has x within 1;", 1);
        Kit.faulty("rule a sum 0 x of has x within 1;", 3, 11);
        Kit.faulty("rule a sum -2147483648 x of has x within 1;", 3, 11);
        Kit.faulty("rule a count 1 of has x within 0;", 3, 31);
        Kit.faulty("rule a count 1 of has x within 1000001;", 3, 31);
        Kit.faulty("rule a count 1 of has x within 1 quiet -1;", 3, 39);
        Kit.faulty("rule a count 1 of has x within 1 quiet 1000001;", 3, 39);
        badCond("a in 1.2.3.4/33", 3, 13);
        badCond("a in 1.2.3.4/-1", 3, 13);
        badCond("a in 1.2.3.4 / 2147483647", 3, 15);
    }

    private static void tooMany() {
        StringBuilder twelve = new StringBuilder();
        for (char c = 'a'; c < 'a' + 12; c++) {
            twelve.append("rule ").append(c).append(" count 1 of has x within 1;");
        }
        Kit.fine(twelve.toString(), 12);
        Kit.faulty(twelve + " rule m count 1 of has x within 1;", 4, twelve.length() + 1);
        Kit.faulty(twelve + "rule", 4, twelve.length());
        Kit.faulty(twelve + "a", 2, twelve.length());
        Kit.faulty("rule a count 1 of has x by u, v, w, y within 1;", 4, 36);
        Kit.faulty("rule a count 1 of has x by u, v, w, u within 1;", 4, 36);
        Kit.faulty("rule a count 1 of has x by u, v, w, within 1;", 2, 36);
        Kit.faulty("rule a chain has x then has x then has x then has x then has x then has x within 1;", 4, 63);
        Kit.fine("rule a chain has x then has x then has x then has x then has x unless has x within 1;", 1);
        String open = "(".repeat(13);
        String close = ")".repeat(13);
        Kit.fine(cond(open + "has x" + close), 1);
        badCond(open + "(has x)" + close, 4, 13);
        badCond(open + "not has x" + close, 4, 13);
        Kit.fine(cond("not ".repeat(13) + "has x"), 1);
        badCond("not ".repeat(14) + "has x", 4, 52);
        badCond("not ".repeat(13) + "(has x)", 4, 52);
        Kit.fine(cond("not (".repeat(6) + "not has x" + ")".repeat(6)), 1);
        // a not ends with its ONE, a ( with its ): those behind do not lie in them
        Kit.fine(cond("not has x and ".repeat(20) + "has x"), 1);
        Kit.fine(cond("(has x) or ".repeat(20) + "not (has x)"), 1);
        Kit.fine(cond(open + "has x" + close + " and " + open + "has x" + close), 1);
        // twelve nots ahead of a ( whose inside has a not: that one lies in thirteen
        badCond("not ".repeat(12) + "(not has x)", 4, 49);
    }

    private static void twice() {
        Kit.faulty("rule a count 1 of has x within 1; rule a count 1 of has x within 1;", 5, 39);
        Kit.fine("rule a count 1 of has x within 1; rule aa count 1 of has x within 1;", 2);
        Kit.faulty("rule a count 1 of has x by u, u within 1;", 5, 30);
        Kit.faulty("rule a count 1 of has x by u, v, u within 1;", 5, 33);
        badCond("alert a", 5, 6);
        badCond("alert b", 5, 6);
        Kit.faulty("rule a count 1 of alert b within 1; rule b count 1 of has x within 1;", 5, 24);
        Kit.fine("rule b count 1 of has x within 1; rule a count 1 of alert b within 1;", 2);
        // the field of a distinct may stand behind by too, and a rule's name may be a field's
        Kit.fine("rule u distinct 1 u of has u by u within 1;", 1);
    }

    private static void leastKindOfOneToken() {
        Kit.faulty("rule a count 99999999999 of has x within 1;", 1, 13);
        Kit.faulty("rule a count 1 of has x within 1; rule a! count 1", 5, 39);
        Kit.faulty("rule a count 0! of has x", 3, 13);
        Kit.faulty("rule a count 1 of has x by u, v, w, of within 1;", 2, 36);
        Kit.faulty("rule a count 1 of has x by u, v, w, ! within 1;", 1, 36);
        // the first along the text, whatever is wrong behind
        Kit.faulty("rule a count 0 of ? within 0", 3, 13);
        Kit.faulty("rule a count 1 of ? within 0", 1, 18);
    }

    private static void tooLong() {
        String rule = "rule a count 1 of has x within 1;";
        Kit.fine(rule + " ".repeat(2000 - rule.length()), 1);
        Kit.faulty(rule + " ".repeat(2001 - rule.length()), 1, 2000);
        Kit.faulty(rule + " ".repeat(2100 - rule.length()), 1, 2000);
        Kit.faulty(rule + " ".repeat(2000 - rule.length()) + "rule", 1, 2000);
        Kit.faulty("rule a count 1 of has x" + " ".repeat(2000), 1, 2000);
        Kit.faulty("rule a count 1 of has x" + " ".repeat(1977), 2, 2000);
        Kit.faulty("rule a count 0" + " ".repeat(2000), 3, 13);
        Kit.faulty(" ".repeat(1999) + "! ", 1, 1999);
        Kit.faulty(" ".repeat(1999) + "; ", 2, 1999);
    }

    /** A token that begins ahead of place 2000 is what all its bytes make of it, also those behind. */
    private static void wordsAcross() {
        fineAcross("", "rule", "");
        fineAcross("rule a ", "count", " 1");
        fineAcross("rule ", "abcdefgh", " count 1 of");
        fineAcross("rule a count 1 of has x by u, ", "vv", "");
        fineAcross("rule ab count 1 of has x within 1; rule ", "abc", " count");
        fineAcross(BEGIN + "kind = ", "within", " within 1;");
        faultyAcross("", "rulex", " a", 2);
        faultyAcross(BEGIN + "has ", "by", " within 1;", 2);
        faultyAcross("rule ab count 1 of has x within 1; rule ", "ab", " count", 5);
        faultyAcross("rule ab count 1 of has x within 1; rule b count 1 of alert ", "abc", " within", 5);
        faultyAcross("rule a count 1 of has x by uv, ", "uv", " within", 5);
        faultyAcross("rule a count 1 of has x by u, v, w, ", "xy", " within", 4);
        faultyAcross("rule ", "abcdefghi", " count", 1);
        faultyAcross("rule ", "abc1", " count", 1);
        faultyAcross("rule ", "a".repeat(100), "", 1);
    }

    private static void numbersAcross() {
        fineAcross("rule a count ", "1000", " of");
        fineAcross("rule a count ", "01", " of");
        fineAcross(BEGIN + "a = ", "-2147483648", " within");
        fineAcross(BEGIN + "a = ", "2147483647", ";");
        fineAcross(BEGIN + "a = ", "12", "\"x\"");
        faultyAcross("rule a count ", "1001", " of", 3);
        faultyAcross("rule a count ", "-1", " of", 3);
        faultyAcross("rule a count 1 of has x within ", "10000000", ";", 3);
        faultyAcross(BEGIN + "a in 1.2.3.4/", "33", " within", 3);
        faultyAcross(BEGIN + "a = ", "2147483648", " within", 1);
        faultyAcross(BEGIN + "a = ", "00000000001", " within", 1);
        faultyAcross(BEGIN + "a = ", "12x", " within", 1);
        faultyAcross(BEGIN + "a = ", "-x", " within", 1);
        faultyAcross(BEGIN + "a = ", "-\n", "1 within", 1);
        faultyAcross(BEGIN + "a = ", "1".repeat(100), "", 1);
    }

    private static void addressesAcross() {
        fineAcross(BEGIN + "a = ", "1.20.255.4", " within");
        fineAcross(BEGIN + "a in ", "10.0.0.0", "/8 within");
        faultyAcross(BEGIN + "a < ", "1.2.3.4", " within", 2);
        faultyAcross("rule a count ", "1.2.3.4", " of", 2);
        faultyAcross(BEGIN + "a = ", "1.2.3.256", " within", 1);
        faultyAcross(BEGIN + "a = ", "1.2.3.0004", " within", 1);
        faultyAcross(BEGIN + "a = ", "1.2.3", " within", 1);
        faultyAcross(BEGIN + "a = ", "1.2.3.4.", " within", 1);
        faultyAcross(BEGIN + "a = ", "1.2.3.4.5", " within", 1);
        faultyAcross(BEGIN + "a = ", "1.2.3.4x", " within", 1);
        faultyAcross(BEGIN + "a = ", "1.".repeat(50), "", 1);
    }

    private static void textsAcross() {
        fineAcross(BEGIN + "a = ", "\"\"", " within");
        fineAcross(BEGIN + "a = ", "\"fourteen bytes\"", " within 5;");
        fineAcross(BEGIN + "a like ", "\"" + "*".repeat(24) + "\"", " within");
        faultyAcross(BEGIN + "a < ", "\"x\"", " within", 2);
        faultyAcross(BEGIN + "a = ", "\"" + "x".repeat(25) + "\"", " within", 1);
        faultyAcross(BEGIN + "a = ", "\"x\ny\"", " within", 1);
        faultyAcross(BEGIN + "a = ", "\"x", "", 1);
        faultyAcross(BEGIN + "a = ", "\"" + "x".repeat(99), "", 1);
    }

    private static void signsAcross() {
        fineAcross(BEGIN + "a ", "!=", " 1");
        fineAcross(BEGIN + "a ", "<=", " 1");
        fineAcross(BEGIN + "a ", ">=", " 1");
        faultyAcross(BEGIN, "!=", " 1", 2);
        faultyAcross(BEGIN + "kind ", "<=", " 1", 2);
        faultyAcross(BEGIN + "a ", "!x", " 1", 1);
        faultyAcross(BEGIN + "a ", "! ", "= 1", 1);
        // a sign of one byte ends there, whatever is behind it
        fineAcross(BEGIN + "a ", "==", " 1");
        fineAcross(BEGIN + "a ", "<!", " 1");
        fineAcross(BEGIN, "(!", " 1");
    }

    /** Wherever the token lies across place 2000: nothing is wrong ahead of it. */
    private static void fineAcross(String head, String token, String behind) {
        for (int ahead = 1; ahead < token.length(); ahead++) {
            Kit.faulty(placed(head, 2000 - ahead, token + behind), 1, 2000);
        }
    }

    private static void faultyAcross(String head, String token, String behind, int kind) {
        for (int ahead = 1; ahead < token.length(); ahead++) {
            Kit.faulty(placed(head, 2000 - ahead, token + behind), kind, 2000 - ahead);
        }
        // it begins at 2000, or is all behind it: then it does not matter any more
        Kit.faulty(placed(head, 2000, token + behind), 1, 2000);
    }

    private static String placed(String head, int place, String rest) {
        return head + " ".repeat(place - head.length()) + rest;
    }

    /** Bytes that end() has cut off belong to no token. */
    private static void cutOff() {
        cut("rule", "x count 1", 2, 4);
        cut("rule a count 1000", "0 of", 2, 17);
        cut(BEGIN + "a = 1.2.3.25", "6 within", 2, 30);
        cut(BEGIN + "a = 1", ".2.3.4", 2, 23);
        cut(BEGIN + "a = \"x", "\" within", 1, 22);
        cut(BEGIN + "a !", "= 1", 1, 20);
        cut(BEGIN + "has x within 1", ";", 2, 32);
        Kit.faulty(";".repeat(2000), 2, 0);
        Kit.faulty(";".repeat(2001), 2, 0);
    }

    private static void cut(String kept, String off, int kind, int place) {
        WatchHouse house = new WatchHouse();
        Kit.put(house, Kit.bytesOf(kept + off));
        house.end(kept.length());
        Kit.due("rules of " + kept, house.rules(), -1 - place);
        Kit.due("fault of " + kept, house.fault(), kind);
    }

    private static void whatStays() {
        WatchHouse house = Kit.houseOf("rule a count 2 of has x within 10;rule b lack has x then has y within 3;");
        Kit.take(house, Kit.record(7, "k", "x", 1), Kit.record(0, "k", "x", 1), Kit.bytes(1));
        Kit.due("fault of the take", house.fault(), 2);
        house.pack(1);
        int packed = house.count(7);
        Kit.due("a bad text", Kit.rules(house, "rule b count 2 of has x within 0;"), -1 - 31);
        Kit.due("fault", house.fault(), 3);
        Kit.due("place", house.place(), -1);
        int[] want = {2, 3, 1, 1, 0, 7, 0, packed};
        for (int what = 0; what < 8; what++) {
            Kit.due("count(" + what + ") behind a bad text", house.count(what), want[what]);
        }
        Kit.alert(house, 0, 0, 7, 0, 1, 0);
        Kit.due("held", house.rule(0, 0), 2);
        Kit.due("waiting", house.rule(1, 0), 2);
        Kit.due("base stays", Kit.take(house, Kit.record(1, "k", "x", 1)), 1);
        Kit.due("time", house.event(3, 0), 8);
        Kit.due("found again", house.rule(0, 1), 2);
    }

    private static void whatIsForgotten() {
        WatchHouse house = Kit.houseOf("rule a count 2 of has x within 10;rule b lack has x then has y within 3;");
        Kit.take(house, Kit.record(7, "k", "x", 1), Kit.record(0, "k", "x", 1));
        house.pack(0);
        int packed = house.count(7);
        int third = house.octet(2);
        Kit.due("a new text", Kit.rules(house, "rule b lack has x then has y within 3;"), 1);
        int[] want = {1, 0, 0, 0, 0, 0, 0, packed};
        for (int what = 0; what < 8; what++) {
            Kit.due("count(" + what + ") behind a new text", house.count(what), want[what]);
        }
        Kit.due("octet stays", house.octet(2), third);
        Kit.none("alert forgotten", () -> house.alert(0, 0));
        Kit.none("event forgotten", () -> house.event(0, 0));
        Kit.none("rule forgotten", () -> house.rule(1, 0));
        Kit.due("nothing held", house.rule(0, 0), 0);
        Kit.due("nothing found", house.rule(0, 1), 0);
        house.pass(100);
        Kit.due("no lack of the old ones", house.count(3), 0);
        Kit.due("an empty text", house.rules(), 0);
        Kit.due("now", house.count(5), 0);
        Kit.due("time from 0 on", Kit.take(house, Kit.record(3, "k")), 1);
        Kit.due("its time", house.event(0, 0), 3);
    }
}
