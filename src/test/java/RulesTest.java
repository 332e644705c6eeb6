/** Promise 4: rules(), the grammar, and texts that are too long; each test names the sentence that it stands for. */
public final class RulesTest {
    private static final String BEGIN = "rule a count 1 of ";
    private static final String GRAMMAR = "RULE: 'rule' NAME WHAT [ 'by' NAME { , NAME } ] 'within' NUMBER"
            + " [ 'quiet' NUMBER ] ;";
    private static final String TOO_LONG = "(More than 2000 bytes: FAULT 1 at 2000, if none is ahead of it.)";
    private static final String TEXT = "The tape (empty then) is a TEXT: how many RULES there are now";
    private static final String FORGOTTEN = "all EVENTS and ALERTS forgotten, NOW 0 (their numbers begin anew, and 4000 may"
            + " come; the RECORD packed latest stays)";
    private static final String STAYS = "or -1 - the place of its FAULT: all stays.";

    public static void main(String[] args) {
        emptyThen();
        howMany();
        fineTexts();
        grammar();
        whats();
        conditions();
        values();
        tooLong();
        wordsAcross();
        numbersAcross();
        addressesAcross();
        textsAcross();
        signsAcross();
        toTheEndOfAFullTape();
        cutOff();
        firstAndLastPlace();
        whatStays();
        whatIsForgotten();
        fourThousandAnew();
        Kit.finish("RulesTest");
    }

    private static void emptyThen() {
        Kit.sentence(4, TEXT);
        WatchHouse house = new WatchHouse();
        Kit.due("a fine text", Kit.rules(house, "rule a count 1 of has x within 1;"), 1);
        Kit.due("the tape behind it", house.count(6), 0);
        Kit.due("a bad text", Kit.rules(house, "rule a count 1 of has x within 0;"), -32);
        Kit.due("the tape behind that", house.count(6), 0);
        Kit.due("nothing is left to keep", house.end(1), false);
        Kit.due("a full tape", Kit.rules(house, " ".repeat(2100)), -2001);
        Kit.due("the tape behind a full one", house.count(6), 0);
        Kit.due("all of it may be fed again", house.feed(0, 0, 0, 0, 0), 20);
    }

    private static void howMany() {
        Kit.sentence(4, TEXT);
        WatchHouse house = new WatchHouse();
        Kit.due("an empty tape has none", house.rules(), 0);
        Kit.due("two", Kit.rules(house, "rule a count 1 of has x within 1;rule b count 1 of has x within 1;"), 2);
        Kit.due("two are there", house.count(0), 2);
        Kit.due("one instead of two", Kit.rules(house, "rule b count 1 of has x within 1;"), 1);
        Kit.due("one is there", house.count(0), 1);
        Kit.due("blanks instead of one", Kit.rules(house, " "), 0);
        Kit.due("none is there", house.count(0), 0);
        Kit.none("none to ask", () -> house.rule(0, 0));
    }

    private static void fineTexts() {
        Kit.sentence(4, "2. RULES", GRAMMAR);
        Kit.fine("", 0);
        Kit.fine(" \n \n", 0);
        Kit.fine("rule a count 1 of has x within 1;", 1);
        Kit.fine("rule a count 1000 of has x by u,v,w within 1000000 quiet 1000000;", 1);
        Kit.fine("rule a distinct 1 x of has x within 1 quiet 0;rule b sum 2147483647 x of has x within 1;", 2);
        Kit.fine("rule a chain has x within 1;\nrule b chain has x then has y then has z then has x then has y"
                + " unless alert a by q within 7;\nrule c lack alert b then alert a by q within 7;", 3);
        Kit.fineCond("kind=x and has y or not(z<1)and not not w!=\"\"");
        Kit.fineCond("kind = rule or kind = kind or kind = within");
        Kit.fineCond("a like \"*?\" and b in 1.2.3.4/0 and b in 255.255.255.255/32");
        Kit.fineCond("a = -2147483648 or a = 2147483647 or a = 0000000001 or a = -0");
        Kit.fineCond("a = 0.0.0.0 or a = 001.02.3.255 or a != 1.1.1.1");
        Kit.fineCond("a < 1 or a <= 1 or a > 1 or a >= 1 or a=1");
        Kit.fineCond("abcdefgh = \"123456789012345678901234\"");
        Kit.fineCond("a = \"\" or a = \" ~!#;,()\"");
        Kit.fine("rule rules count 1 of has ins within 1;", 1);
    }

    private static void grammar() {
        Kit.sentence(4, "2. RULES", GRAMMAR);
        Kit.faulty("rule", 2, 4);
        Kit.faulty("rule ", 2, 5);
        Kit.faulty("rule a", 2, 6);
        Kit.faulty("rule a count", 2, 12);
        Kit.faulty("rule a count 1 of has x within 1", 2, 32);
        Kit.faulty("rule a count 1 of has x;", 2, 23);
        Kit.faulty(";", 2, 0);
        Kit.faulty("a", 2, 0);
        Kit.faulty("rule count count 1 of has x within 1;", 2, 5);
        Kit.faulty("rule \"a\" count 1 of has x within 1;", 2, 5);
        Kit.faulty("rule a count 1 of has x by within 1;", 2, 27);
        Kit.faulty("rule a count 1 of has x by u v within 1;", 2, 29);
        Kit.faulty("rule a count 1 of has x by u, within 1;", 2, 30);
        Kit.faulty("rule a count 1 of has x by 1 within 1;", 2, 27);
        Kit.faulty("rule a count 1 of has x within x;", 2, 31);
        Kit.faulty("rule a count 1 of has x within 1 quiet;", 2, 38);
        Kit.faulty("rule a count 1 of has x quiet 1 within 1;", 2, 24);
        Kit.faulty("rule a count 1 of has x within 1 by u;", 2, 33);
        Kit.faulty("rule a count 1 of has x within 1;;", 2, 33);
    }

    private static void whats() {
        Kit.sentence(4, "2. RULES", "WHAT: 'count' NUMBER 'of' COND | 'distinct' NUMBER NAME 'of' COND | 'sum' NUMBER NAME 'of'"
                + " COND | 'chain' COND { 'then' COND } [ 'unless' COND ]");
        Kit.faulty("rule a of 1 of has x within 1;", 2, 7);
        Kit.faulty("rule a within 1;", 2, 7);
        Kit.faulty("rule a by u within 1;", 2, 7);
        Kit.faulty("rule within 1;", 2, 5);
        Kit.faulty("rule a count x of has x within 1;", 2, 13);
        Kit.faulty("rule a count 1 x of has x within 1;", 2, 15);
        Kit.faulty("rule a distinct 1 of has x within 1;", 2, 18);
        Kit.faulty("rule a distinct x 1 of has x within 1;", 2, 16);
        Kit.faulty("rule a distinct 1 in of has x within 1;", 2, 18);
        Kit.faulty("rule a sum 1 1 of has x within 1;", 2, 13);
        Kit.faulty("rule a chain then has x within 1;", 2, 13);
        Kit.faulty("rule a chain has x unless within 1;", 2, 26);
        Kit.faulty("rule a chain has x unless has y then has x within 1;", 2, 32);
        Kit.faulty("rule a chain has x unless has y unless has x within 1;", 2, 32);
        Kit.faulty("rule a lack has x within 1;", 2, 18);
        Kit.faulty("rule a lack has x then has y then has z within 1;", 2, 29);
        Kit.faulty("rule a lack has x then has y unless has z within 1;", 2, 29);
    }

    private static void values() {
        Kit.sentence(4, "2. RULES", "NAME 'like' TEXT | NAME 'in' ADDRESS / NUMBER | NAME CMP VALUE.");
        Kit.faultyCond("a", 2, 2);
        Kit.faultyCond("a like 1", 2, 7);
        Kit.faultyCond("a like b", 2, 7);
        Kit.faultyCond("a in 1/2", 2, 5);
        Kit.faultyCond("a in 1.2.3.4", 2, 13);
        Kit.faultyCond("a in 1.2.3.4/x", 2, 13);
        Kit.faultyCond("a = b", 2, 4);
        Kit.faultyCond("a = has", 2, 4);
        Kit.faultyCond("a =", 2, 4);
        Kit.faultyCond("a like", 2, 7);
        Kit.faultyCond("a <", 2, 4);
        Kit.faultyCond("a = and has x", 2, 4);
        Kit.faultyCond("a < \"x\"", 2, 4);
        Kit.faultyCond("a >= 1.2.3.4", 2, 5);
        Kit.faultyCond("a <= x", 2, 5);
        Kit.faultyCond("1 = a", 2, 0);
    }

    private static void conditions() {
        Kit.sentence(4, "2. RULES", "COND: BOTH { 'or' BOTH }. BOTH: ONE { 'and' ONE }. ONE: 'not' ONE | ( COND )");
        Kit.faultyCond("", 2, 1);
        Kit.faultyCond("has", 2, 4);
        Kit.faultyCond("has of", 2, 4);
        Kit.faultyCond("has \"x\"", 2, 4);
        Kit.faultyCond("kind x", 2, 5);
        Kit.faultyCond("kind != x", 2, 5);
        Kit.faultyCond("kind = \"x\"", 2, 7);
        Kit.faultyCond("kind = 1", 2, 7);
        Kit.faultyCond("alert", 2, 6);
        Kit.faultyCond("alert 1", 2, 6);
        Kit.faultyCond("(has x", 2, 7);
        Kit.faultyCond("has x)", 2, 5);
        Kit.faultyCond("()", 2, 1);
        Kit.faultyCond("not", 2, 4);
        Kit.faultyCond("has x and", 2, 10);
        Kit.faultyCond("has x or or has y", 2, 9);
        Kit.faultyCond("has x has y", 2, 6);
        Kit.faultyCond("and has x", 2, 0);
    }

    private static void tooLong() {
        Kit.sentence(4, TOO_LONG);
        String rule = "rule a count 1 of has x within 1;";
        Kit.fine(rule + " ".repeat(2000 - rule.length()), 1);
        Kit.faulty(rule + " ".repeat(2001 - rule.length()), 1, 2000);
        Kit.faulty(rule + " ".repeat(2100 - rule.length()), 1, 2000);
        Kit.faulty(rule + " ".repeat(2000 - rule.length()) + "rule", 1, 2000);
        Kit.faulty("rule a count 1 of has x" + " ".repeat(2000), 1, 2000);
        Kit.faulty("rule a count 1 of has x" + " ".repeat(1977), 2, 2000);
        Kit.faulty("rule a count 0" + " ".repeat(2000), 3, 13);
        Kit.faulty(" ".repeat(1999) + "! ", 1, 1999);
        Kit.faulty(" ".repeat(1999) + "; ", 2, 1999);
    }

    /** A token that begins ahead of place 2000 is what all its bytes make of it, also those behind. */
    private static void wordsAcross() {
        fineAcross("", "rule", "");
        fineAcross("rule a ", "count", " 1");
        fineAcross("rule ", "abcdefgh", " count 1 of");
        fineAcross("rule a count 1 of has x by u, ", "vv", "");
        fineAcross("rule ab count 1 of has x within 1; rule ", "abc", " count");
        fineAcross(BEGIN + "kind = ", "within", " within 1;");
        faultyAcross("", "rulex", " a", 2);
        faultyAcross(BEGIN + "has ", "by", " within 1;", 2);
        faultyAcross("rule ab count 1 of has x within 1; rule ", "ab", " count", 5);
        faultyAcross("rule ab count 1 of has x within 1; rule b count 1 of alert ", "abc", " within", 5);
        faultyAcross("rule a count 1 of has x by uv, ", "uv", " within", 5);
        faultyAcross("rule a count 1 of has x by u, v, w, ", "xy", " within", 4);
        faultyAcross("rule ", "abcdefghi", " count", 1);
        faultyAcross("rule ", "abc1", " count", 1);
        faultyAcross("rule ", "a".repeat(100), "", 1);
    }

    private static void numbersAcross() {
        fineAcross("rule a count ", "1000", " of");
        fineAcross("rule a count ", "01", " of");
        fineAcross(BEGIN + "a = ", "-2147483648", " within");
        fineAcross(BEGIN + "a = ", "2147483647", ";");
        fineAcross(BEGIN + "a = ", "12", "\"x\"");
        faultyAcross("rule a count ", "1001", " of", 3);
        faultyAcross("rule a count ", "-1", " of", 3);
        faultyAcross("rule a count 1 of has x within ", "10000000", ";", 3);
        faultyAcross(BEGIN + "a in 1.2.3.4/", "33", " within", 3);
        faultyAcross(BEGIN + "a = ", "2147483648", " within", 1);
        faultyAcross(BEGIN + "a = ", "00000000001", " within", 1);
        faultyAcross(BEGIN + "a = ", "12x", " within", 1);
        faultyAcross(BEGIN + "a = ", "-x", " within", 1);
        faultyAcross(BEGIN + "a = ", "-\n", "1 within", 1);
        faultyAcross(BEGIN + "a = ", "1".repeat(100), "", 1);
    }

    private static void addressesAcross() {
        fineAcross(BEGIN + "a = ", "1.20.255.4", " within");
        fineAcross(BEGIN + "a in ", "10.0.0.0", "/8 within");
        faultyAcross(BEGIN + "a < ", "1.2.3.4", " within", 2);
        faultyAcross("rule a count ", "1.2.3.4", " of", 2);
        faultyAcross(BEGIN + "a = ", "1.2.3.256", " within", 1);
        faultyAcross(BEGIN + "a = ", "1.2.3.0004", " within", 1);
        faultyAcross(BEGIN + "a = ", "1.2.3", " within", 1);
        faultyAcross(BEGIN + "a = ", "1.2.3.4.", " within", 1);
        faultyAcross(BEGIN + "a = ", "1.2.3.4.5", " within", 1);
        faultyAcross(BEGIN + "a = ", "1.2.3.4x", " within", 1);
        faultyAcross(BEGIN + "a = ", "1.".repeat(50), "", 1);
    }

    private static void textsAcross() {
        fineAcross(BEGIN + "a = ", "\"\"", " within");
        fineAcross(BEGIN + "a = ", "\"fourteen bytes\"", " within 5;");
        fineAcross(BEGIN + "a like ", "\"" + "*".repeat(24) + "\"", " within");
        faultyAcross(BEGIN + "a < ", "\"x\"", " within", 2);
        faultyAcross(BEGIN + "a = ", "\"" + "x".repeat(25) + "\"", " within", 1);
        faultyAcross(BEGIN + "a = ", "\"x\ny\"", " within", 1);
        faultyAcross(BEGIN + "a = ", "\"x", "", 1);
        faultyAcross(BEGIN + "a = ", "\"" + "x".repeat(99), "", 1);
    }

    private static void signsAcross() {
        fineAcross(BEGIN + "a ", "!=", " 1");
        fineAcross(BEGIN + "a ", "<=", " 1");
        fineAcross(BEGIN + "a ", ">=", " 1");
        faultyAcross(BEGIN, "!=", " 1", 2);
        faultyAcross(BEGIN + "kind ", "<=", " 1", 2);
        faultyAcross(BEGIN + "a ", "!x", " 1", 1);
        faultyAcross(BEGIN + "a ", "! ", "= 1", 1);
        // a sign of one byte ends there, whatever is behind it
        fineAcross(BEGIN + "a ", "==", " 1");
        fineAcross(BEGIN + "a ", "<!", " 1");
        fineAcross(BEGIN, "(!", " 1");
    }

    /** Wherever the token lies across place 2000: nothing is wrong ahead of it. */
    private static void fineAcross(String head, String token, String behind) {
        Kit.sentence(4, TOO_LONG);
        for (int ahead = 1; ahead < token.length(); ahead++) {
            Kit.faulty(placed(head, 2000 - ahead, token + behind), 1, 2000);
        }
    }

    private static void faultyAcross(String head, String token, String behind, int kind) {
        Kit.sentence(4, TOO_LONG);
        for (int ahead = 1; ahead < token.length(); ahead++) {
            Kit.faulty(placed(head, 2000 - ahead, token + behind), kind, 2000 - ahead);
        }
        // it begins at 2000, or is all behind it: then it does not matter any more
        Kit.faulty(placed(head, 2000, token + behind), 1, 2000);
    }

    private static String placed(String head, int place, String rest) {
        return head + " ".repeat(place - head.length()) + rest;
    }

    /** A token may go on to the last byte of all that a tape can hold: 101 bytes from place 1999 on. */
    private static void toTheEndOfAFullTape() {
        Kit.sentence(4, TOO_LONG);
        toTheEnd("1".repeat(101), 1, 1999);
        toTheEnd("-" + "1".repeat(100), 1, 1999);
        toTheEnd("1.".repeat(50) + "1", 1, 1999);
        toTheEnd("a".repeat(101), 1, 1999);
        toTheEnd("\"" + "x".repeat(100), 1, 1999);
        toTheEnd("<".repeat(101), 2, 1999);
        toTheEnd("1" + " ".repeat(99) + "1", 1, 2000);
        toTheEnd("\"\"" + " ".repeat(98) + "!", 1, 2000);
    }

    private static void toTheEnd(String bytes, int kind, int place) {
        String text = placed(BEGIN + "a = ", 1999, bytes);
        Kit.due("bytes of a full tape", text.length(), 2100);
        Kit.faulty(text, kind, place);
    }

    /** Bytes that end() has cut off belong to no token. */
    private static void cutOff() {
        Kit.sentence(4, TEXT);
        cut("rule", "x count 1", 2, 4);
        cut("rule a count 1000", "0 of", 2, 17);
        cut(BEGIN + "a = 1.2.3.25", "6 within", 2, 30);
        cut(BEGIN + "a = 1", ".2.3.4", 2, 23);
        cut(BEGIN + "a = \"x", "\" within", 1, 22);
        cut(BEGIN + "a !", "= 1", 1, 20);
        cut(BEGIN + "has x within 1", ";", 2, 32);
        Kit.faulty(";".repeat(2000), 2, 0);
        Kit.faulty(";".repeat(2001), 2, 0);
    }

    private static void cut(String kept, String off, int kind, int place) {
        WatchHouse house = new WatchHouse();
        Kit.put(house, Kit.bytesOf(kept + off));
        house.end(kept.length());
        Kit.due("rules of " + kept, house.rules(), -1 - place);
        Kit.due("fault of " + kept, house.fault(), kind);
    }

    private static void firstAndLastPlace() {
        Kit.sentence(4, STAYS);
        Kit.faulty("!", 1, 0);
        Kit.faulty("a", 2, 0);
        Kit.faulty(" ".repeat(1999) + "a", 2, 1999);
        Kit.faulty("rule" + " ".repeat(1996), 2, 2000);
        Kit.faulty("rule" + " ".repeat(1997), 1, 2000);
    }

    private static void whatStays() {
        Kit.sentence(4, STAYS);
        WatchHouse house = Kit.houseOf("rule a count 2 of has x within 10;rule b lack has x then has y within 3;");
        Kit.take(house, Kit.record(7, "k", "x", 1), Kit.record(0, "k", "x", 1), Kit.bytes(1));
        Kit.due("fault of the take", house.fault(), 2);
        house.pack(1);
        int packed = house.count(7);
        Kit.due("a bad text", Kit.rules(house, "rule b count 2 of has x within 0;"), -1 - 31);
        Kit.due("fault", house.fault(), 3);
        Kit.due("place", house.place(), -1);
        int[] want = {2, 3, 1, 1, 0, 7, 0, packed};
        for (int what = 0; what < 8; what++) {
            Kit.due("count(" + what + ") behind a bad text", house.count(what), want[what]);
        }
        Kit.alert(house, 0, 0, 7, 0, 1, 0);
        Kit.due("held", house.rule(0, 0), 2);
        Kit.due("waiting", house.rule(1, 0), 2);
        Kit.due("base stays", Kit.take(house, Kit.record(1, "k", "x", 1)), 1);
        Kit.due("time", house.event(3, 0), 8);
        Kit.due("found again", house.rule(0, 1), 2);
    }

    private static void whatIsForgotten() {
        Kit.sentence(4, FORGOTTEN);
        WatchHouse house = Kit.houseOf("rule a count 2 of has x within 10;rule b lack has x then has y within 3;");
        Kit.take(house, Kit.record(7, "k", "x", 1), Kit.record(0, "k", "x", 1));
        house.pack(0);
        int packed = house.count(7);
        int third = house.octet(2);
        Kit.due("a new text", Kit.rules(house, "rule b lack has x then has y within 3;"), 1);
        int[] want = {1, 0, 0, 0, 0, 0, 0, packed};
        for (int what = 0; what < 8; what++) {
            Kit.due("count(" + what + ") behind a new text", house.count(what), want[what]);
        }
        Kit.due("octet stays", house.octet(2), third);
        Kit.none("alert forgotten", () -> house.alert(0, 0));
        Kit.none("event forgotten", () -> house.event(0, 0));
        Kit.none("rule forgotten", () -> house.rule(1, 0));
        Kit.due("nothing held", house.rule(0, 0), 0);
        Kit.due("nothing found", house.rule(0, 1), 0);
        house.pass(100);
        Kit.due("no lack of the old ones", house.count(3), 0);
        Kit.due("an empty text", house.rules(), 0);
        Kit.due("now", house.count(5), 0);
        Kit.due("time from 0 on", Kit.take(house, Kit.record(3, "k")), 1);
        Kit.due("its time", house.event(0, 0), 3);
    }

    private static void fourThousandAnew() {
        Kit.sentence(4, FORGOTTEN);
        String text = Kit.fillers(9);
        byte[] x = Kit.record(0, "x");
        WatchHouse house = Kit.houseOf(text);
        Kit.fill(house, 400, x);
        Kit.due("four thousand", house.count(1), 4000);
        Kit.due("one too many", Kit.take(house, x), 0);
        Kit.due("a bad text", Kit.rules(house, "rule"), -5);
        Kit.due("behind a bad text it is too many still", Kit.take(house, x), 0);
        Kit.due("the text anew", Kit.rules(house, text), 9);
        Kit.due("none came yet", house.count(1), 0);
        Kit.fill(house, 399, x);
        Kit.due("ten may come", house.count(1), 3990);
        Kit.due("they come of one", Kit.take(house, x, x), 1);
        Kit.due("four thousand again", house.count(1), 4000);
        Kit.due("the last one's number", house.event(3999, 3), 8);
        Kit.none("none behind it", () -> house.event(4000, 0));
    }
}
