/** Promise 7 and 2. RULES: of which events a cond just holds and of which not; each test names its sentence. */
public final class CondEdgesTest {
    private static final String RULES = "2. RULES";
    private static final String HAS = "has: it has that FIELD.";
    private static final String CMP = "NAME CMP VALUE: it has that FIELD, of the VALUE's SORT, and it is so.";
    private static final String LIKE = "like: a TEXT that is, from end to end, as told: ? any byte, * any number of any bytes,"
            + " others themselves.";
    private static final String IN = "in: an ADDRESS whose first n bits (NUMBER, 0 to 32) are those of the ADDRESS told.";
    private static final int LEAST = Integer.MIN_VALUE;
    private static final int MOST = Integer.MAX_VALUE;
    private static final String FULL = "123456789012345678901234";

    public static void main(String[] args) {
        kinds();
        fields();
        alerts();
        numbers();
        otherSorts();
        texts();
        addresses();
        patterns();
        patternsFromEndToEnd();
        patternsOfMostBytes();
        bits();
        eachBit();
        bothAndOr();
        nots();
        Kit.finish("CondEdgesTest");
    }

    private static void holds(String cond, boolean want, Object... fields) {
        WatchHouse house = Kit.houseOf(Kit.cond(cond));
        Kit.take(house, Kit.record(0, "kindlongerxy", fields));
        StringBuilder of = new StringBuilder(cond);
        for (Object field : fields) {
            of.append(' ').append(field);
        }
        Kit.due(of.toString(), house.count(3), want ? 1 : 0);
    }

    private static void ofKind(String cond, String kind, boolean want) {
        WatchHouse house = Kit.houseOf(Kit.cond(cond));
        Kit.take(house, Kit.record(0, kind));
        Kit.due(cond + " of kind " + kind, house.count(3), want ? 1 : 0);
    }

    private static void kinds() {
        Kit.sentence(7, RULES, "kind: its KIND is the WORD.");
        ofKind("kind = a", "a", true);
        ofKind("kind = a", "aa", false);
        ofKind("kind = a", "b", false);
        ofKind("kind = aa", "a", false);
        ofKind("kind = abcdefgh", "abcdefgh", true);
        ofKind("kind = abcdefgh", "abcdefg", false);
        ofKind("kind = abcdefgh", "abcdefgi", false);
        // a kind may have more letters than a word
        ofKind("kind = abcdefgh", "abcdefghi", false);
        ofKind("kind = abcdefgh", "abcdefghijkl", false);
        ofKind("not kind = abcdefgh", "abcdefghijkl", true);
        ofKind("kind = zzzzzzzz", "zzzzzzzz", true);
    }

    private static void fields() {
        Kit.sentence(7, RULES, HAS);
        holds("has f", true, "f", 0);
        holds("has f", true, "f", "");
        holds("has f", true, "f", Kit.address(0, 0, 0, 0));
        holds("has f", false);
        holds("has f", false, "ff", 0);
        holds("has ff", false, "f", 0);
        holds("has h", true, "a", 1, "b", 1, "c", 1, "d", 1, "e", 1, "f", 1, "g", 1, "h", 1);
        holds("has a", true, "a", 1, "b", 1, "c", 1, "d", 1, "e", 1, "f", 1, "g", 1, "h", 1);
        holds("has i", false, "a", 1, "b", 1, "c", 1, "d", 1, "e", 1, "f", 1, "g", 1, "h", 1);
        holds("has abcdefgh", true, "abcdefgh", 1);
        holds("has abcdefgh", false, "abcdefgi", 1);
    }

    private static void alerts() {
        Kit.sentence(7, RULES, "alert: it is one that an ALERT of that RULE made.");
        WatchHouse house = Kit.houseOf("rule a count 1 of kind = x within 1;rule b count 1 of kind = x within 1;"
                + "rule c count 1 of alert a within 1;rule d count 1 of alert b within 1;rule e count 1 of kind = alert within 1;");
        Kit.take(house, Kit.record(0, "x"), Kit.record(0, "alert"));
        Kit.due("that of a", house.rule(2, 1), 1);
        Kit.due("that of b", house.rule(3, 1), 1);
        Kit.due("a record of that kind was made by none, but is of the kind", house.rule(4, 1), 3);
    }

    private static void numbers() {
        Kit.sentence(7, RULES, CMP);
        int[] edges = {LEAST, -1, 0, 5, MOST};
        for (int edge : edges) {
            for (int add = -1; add <= 1; add++) {
                long value = (long) edge + add;
                if (value == (int) value) {
                    holds("f = " + edge, value == edge, "f", (int) value);
                    holds("f != " + edge, value != edge, "f", (int) value);
                    holds("f < " + edge, value < edge, "f", (int) value);
                    holds("f <= " + edge, value <= edge, "f", (int) value);
                    holds("f > " + edge, value > edge, "f", (int) value);
                    holds("f >= " + edge, value >= edge, "f", (int) value);
                }
            }
        }
        holds("f < " + MOST, true, "f", LEAST);
        holds("f > " + LEAST, true, "f", MOST);
        holds("f > " + MOST, false, "f", LEAST);
    }

    private static void otherSorts() {
        Kit.sentence(7, RULES, CMP);
        for (String sign : new String[] {"=", "!=", "<", "<=", ">", ">="}) {
            holds("f " + sign + " 0", false);
            holds("f " + sign + " 0", false, "f", "");
            holds("f " + sign + " 1", false, "f", "1");
            holds("f " + sign + " 1", false, "f", Kit.address(0, 0, 0, 1));
            holds("f " + sign + " 1", false, "g", 1);
        }
        for (String sign : new String[] {"=", "!="}) {
            holds("f " + sign + " \"1\"", false, "f", 1);
            holds("f " + sign + " \"\"", false, "f", 0);
            holds("f " + sign + " \"\"", false);
            holds("f " + sign + " 0.0.0.1", false, "f", 1);
            holds("f " + sign + " 0.0.0.0", false, "f", "");
            holds("f " + sign + " 0.0.0.0", false);
        }
    }

    private static void texts() {
        Kit.sentence(7, RULES, CMP);
        text("", "", true);
        text("", " ", false);
        text("a", "", false);
        text("a", "ab", false);
        text("ab", "a", false);
        text("a", "A", false);
        text(FULL, FULL, true);
        text(FULL, FULL.substring(1), false);
        text(FULL, FULL.substring(0, 23), false);
        text(FULL, "023456789012345678901234", false);
        text(FULL, "123456789012345678901235", false);
        // texts of one length whose bytes 31 times over come to the same
        text("Aa", "BB", false);
        text("*", "x", false);
        text("?", "x", false);
    }

    private static void text(String told, String value, boolean same) {
        holds("f = \"" + told + "\"", same, "f", value);
        holds("f != \"" + told + "\"", !same, "f", value);
    }

    private static void addresses() {
        Kit.sentence(7, RULES, CMP);
        int[][] others = {{2, 2, 3, 4}, {1, 3, 3, 4}, {1, 2, 2, 4}, {1, 2, 3, 5}, {4, 3, 2, 1}};
        holds("f = 1.2.3.4", true, "f", Kit.address(1, 2, 3, 4));
        holds("f != 1.2.3.4", false, "f", Kit.address(1, 2, 3, 4));
        for (int[] other : others) {
            holds("f = 1.2.3.4", false, "f", Kit.address(other[0], other[1], other[2], other[3]));
            holds("f != 1.2.3.4", true, "f", Kit.address(other[0], other[1], other[2], other[3]));
        }
        holds("f = 255.255.255.255", true, "f", Kit.address(255, 255, 255, 255));
        holds("f = 128.0.0.0", true, "f", Kit.address(128, 0, 0, 0));
        holds("f = 128.0.0.0", false, "f", LEAST);
    }

    private static void like(String pattern, String value, boolean want) {
        holds("f like \"" + pattern + "\"", want, "f", value);
    }

    private static void patterns() {
        Kit.sentence(7, RULES, LIKE);
        like("", "", true);
        like("", "a", false);
        like("?", "", false);
        like("?", "a", true);
        like("?", " ", true);
        like("?", "~", true);
        like("?", "ab", false);
        like("??", "a", false);
        like("*", "", true);
        like("*", "a", true);
        like("**", "", true);
        like("*?", "", false);
        like("?*", "a", true);
        like("*?*", "a", true);
        like("*??", "a", false);
        like("a", "a", true);
        like("a", "A", false);
        like("~", "~", true);
        like(" ", " ", true);
        like("*", "*", true);
        like("?", "?", true);
        like("a?", "a*", true);
        holds("f like \"*\"", false, "f", 5);
        holds("f like \"*\"", false, "f", Kit.address(1, 2, 3, 4));
        holds("f like \"*\"", false);
    }

    private static void patternsFromEndToEnd() {
        Kit.sentence(7, RULES, LIKE);
        like("a", "ab", false);
        like("b", "ab", false);
        like("a*", "ab", true);
        like("a*", "ba", false);
        like("*a", "ba", true);
        like("*a", "ab", false);
        like("*a*", "bab", true);
        like("a*b", "ab", true);
        like("a*b", "a", false);
        like("a*a", "a", false);
        like("a*a", "aa", true);
        like("ab*bc", "abc", false);
        like("ab*bc", "abbc", true);
        like("a*c?e", "abcccde", true);
        like("a*c?e", "abcde!", false);
        like("*ab", "aab", true);
        like("*aab", "aaab", true);
        like("*a*b", "aabba", false);
        like("a*b*c", "a1b2b3c", true);
        like("a*b*c", "a1c2b", false);
    }

    private static void patternsOfMostBytes() {
        Kit.sentence(7, RULES, LIKE);
        like(FULL, FULL, true);
        like("?".repeat(24), FULL, true);
        like("?".repeat(23), FULL, false);
        like("?".repeat(24), FULL.substring(1), false);
        like("*".repeat(24), FULL, true);
        like("*".repeat(24), "", true);
        like("?".repeat(23) + "*", FULL, true);
        like("?".repeat(23) + "*", FULL.substring(1), true);
        like("?".repeat(23) + "*", FULL.substring(2), false);
        like("*" + FULL.substring(1), FULL, true);
        like("*" + FULL.substring(1), FULL.substring(1), true);
        like("*1*2*3*4*5*6*7*8*9*0*1*4", FULL, true);
        like("*a*a*a*a*a*a*a*a*a*a*a*b", "a".repeat(24), false);
        like("*a*a*a*a*a*a*a*a*a*a*a*b", "a".repeat(23) + "b", true);
    }

    private static void bits() {
        Kit.sentence(7, RULES, IN);
        holds("f in 1.2.3.4/0", true, "f", Kit.address(255, 255, 255, 255));
        holds("f in 1.2.3.4/0", false, "f", 1);
        holds("f in 1.2.3.4/0", false, "f", "1.2.3.4");
        holds("f in 1.2.3.4/0", false);
        holds("f in 1.2.3.4/32", true, "f", Kit.address(1, 2, 3, 4));
        holds("f in 1.2.3.4/32", false, "f", Kit.address(1, 2, 3, 5));
        holds("f in 1.2.3.4/31", true, "f", Kit.address(1, 2, 3, 5));
        holds("f in 1.2.3.4/31", false, "f", Kit.address(1, 2, 3, 6));
        holds("f in 200.1.0.0/1", true, "f", Kit.address(128, 0, 0, 0));
        holds("f in 200.1.0.0/1", false, "f", Kit.address(127, 0, 0, 0));
        // those behind the first n bits of the one told do not matter either
        holds("f in 10.1.255.255/16", true, "f", Kit.address(10, 1, 0, 3));
        holds("f in 10.1.0.0/16", false, "f", Kit.address(10, 0, 255, 3));
    }

    private static void eachBit() {
        Kit.sentence(7, RULES, IN);
        long told = 0xA5C30F96L;
        for (int n = 1; n <= 32; n++) {
            String cond = "f in 165.195.15.150/" + n;
            holds(cond, false, "f", addressOf(told ^ 1L << 32 - n));
            holds(cond, true, "f", addressOf(told ^ (1L << 32 - n) - 1));
        }
    }

    private static Object addressOf(long bits) {
        return Kit.address((int) (bits >> 24 & 255), (int) (bits >> 16 & 255), (int) (bits >> 8 & 255), (int) (bits & 255));
    }

    private static void bothAndOr() {
        Kit.sentence(7, RULES, "COND: BOTH { 'or' BOTH }. BOTH: ONE { 'and' ONE }.");
        holds("has f or has g and has h", true, "f", 1);
        holds("has h and has g or has f", true, "f", 1);
        holds("(has f or has g) and has h", false, "f", 1);
        holds("has g or has h or has f", true, "f", 1);
        holds("has f and has g and has h", false, "f", 1, "g", 1);
        holds("has f and has g and has h", true, "f", 1, "g", 1, "h", 1);
        holds("has x or has y", false, "f", 1);
    }

    private static void nots() {
        Kit.sentence(7, RULES, "ONE: 'not' ONE");
        holds("not has f or has f", true, "f", 1);
        holds("not has g and has f", true, "f", 1);
        holds("not has f and has g", false, "f", 1);
        holds("not (has f or has g)", false, "g", 1);
        holds("not (has f and has g)", true, "g", 1);
        holds("not not has f", true, "f", 1);
        holds("not not not has f", false, "f", 1);
        holds("not f = 1", true);
        holds("not f = 1", true, "f", "1");
    }
}
