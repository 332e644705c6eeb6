/** Promises 8 to 15: pass, count, alert, key, rule, event, pack, octet, and the limits of a life. */
public final class AnswersTest {
    public static void main(String[] args) {
        passing();
        wrongQuestions();
        fiveHundredAlerts();
        latestEvents();
        packing();
        fourThousandEvents();
        fourThousandMade();
        tooManyFaulty();
        manyKeys();
        Kit.finish("AnswersTest");
    }

    private static void passing() {
        WatchHouse house = new WatchHouse();
        Kit.due("pass(-1)", house.pass(-1), false);
        Kit.due("pass(0)", house.pass(0), true);
        Kit.due("pass(7)", house.pass(7), true);
        Kit.due("now", house.count(5), 7);
        Kit.due("pass(6)", house.pass(6), false);
        Kit.due("pass(7) again", house.pass(7), true);
        Kit.due("pass beyond", house.pass(2000000001), false);
        Kit.due("pass most", house.pass(Integer.MAX_VALUE), false);
        Kit.due("pass least", house.pass(Integer.MIN_VALUE), false);
        Kit.due("now still", house.count(5), 7);
        Kit.due("pass to the end", house.pass(2000000000), true);
        Kit.due("now at the end", house.count(5), 2000000000);
        Kit.due("no event came", house.count(1), 0);
    }

    private static void wrongQuestions() {
        WatchHouse house = Kit.houseOf("rule a count 1 of kind = x by f, g within 5;");
        Kit.take(house, Kit.record(4, "x", "f", "text", "g", Kit.address(255, 255, 255, 254)));
        for (int what : new int[] {-1, 8, 100, Integer.MIN_VALUE, Integer.MAX_VALUE}) {
            Kit.due("count(" + what + ")", house.count(what), -1);
            Kit.none("alert(0, " + what + ")", () -> house.alert(0, what));
            Kit.none("rule(0, " + what + ")", () -> house.rule(0, what));
            Kit.none("event(0, " + what + ")", () -> house.event(0, what));
            Kit.none("key(0, 0, " + what + ")", () -> house.key(0, 0, what));
            Kit.none("key(0, 1, " + what + ")", () -> house.key(0, 1, what));
            Kit.none("alert(" + what + ", 0)", () -> house.alert(what, 0));
            Kit.none("rule(" + what + ", 0)", () -> house.rule(what, 0));
            Kit.none("event(" + what + ", 0)", () -> house.event(what, 0));
            Kit.none("key(" + what + ", 0, 0)", () -> house.key(what, 0, 0));
            Kit.none("key(0, " + what + ", 0)", () -> house.key(0, what, 0));
            Kit.none("pack(" + what + ")", () -> house.pack(what));
        }
        Kit.none("alert(0, 5)", () -> house.alert(0, 5));
        Kit.none("alert(1, 0)", () -> house.alert(1, 0));
        Kit.none("rule(0, 2)", () -> house.rule(0, 2));
        Kit.none("rule(1, 0)", () -> house.rule(1, 0));
        Kit.none("event(0, 4)", () -> house.event(0, 4));
        Kit.none("event(2, 0)", () -> house.event(2, 0));
        Kit.none("pack(2)", () -> house.pack(2));
        Kit.due("key(0, 0, 5)", house.key(0, 0, 5), 't');
        Kit.none("key(0, 0, 6)", () -> house.key(0, 0, 6));
        Kit.due("key(0, 1, 1)", house.key(0, 1, 1), -2);
        Kit.none("key(0, 1, 2)", () -> house.key(0, 1, 2));
        Kit.none("key(0, 2, 0)", () -> house.key(0, 2, 0));
        Kit.none("octet(0)", () -> house.octet(0));
        Kit.due("wrong questions change nothing", house.count(1), 2);
        WatchHouse full = Kit.houseOf("rule a count 1 of kind = x by f within 5;");
        Kit.take(full, Kit.record(4, "x", "f", "123456789012345678901234"));
        Kit.due("the last byte of the longest", full.key(0, 0, 25), '4');
        Kit.none("key(0, 0, 26)", () -> full.key(0, 0, 26));
    }

    private static void fiveHundredAlerts() {
        WatchHouse house = Kit.houseOf("rule a count 1 of has f within 5;rule b count 1 of has f within 5;");
        byte[] f = Kit.record(1, "x", "f", 1);
        for (int k = 0; k < 26; k++) {
            byte[][] ten = new byte[10][];
            java.util.Arrays.fill(ten, f);
            Kit.due("ten", Kit.take(house, ten), 10);
        }
        Kit.due("all are counted", house.count(3), 520);
        Kit.alert(house, 499, 1, 250, 3 * 249, 3 * 249, 0);
        Kit.none("alert(500, 0)", () -> house.alert(500, 0));
        Kit.none("alert(519, 0)", () -> house.alert(519, 0));
        Kit.none("key(500, 0, 0)", () -> house.key(500, 0, 0));
        Kit.due("those beyond make events too", house.count(2), 520);
    }

    private static void latestEvents() {
        WatchHouse house = new WatchHouse();
        for (int k = 0; k < 64; k++) {
            Kit.take(house, Kit.record(1, "x"));
        }
        Kit.due("the first of 64", house.event(0, 0), 1);
        Kit.due("pack(0) of 64", house.pack(0), 6);
        Kit.take(house, Kit.record(1, "x"));
        Kit.none("the first of 65", () -> house.event(0, 0));
        Kit.none("pack(0) of 65", () -> house.pack(0));
        Kit.none("pack(1) of 65", () -> house.pack(1));
        Kit.due("event(1) of 65", house.event(1, 0), 2);
        Kit.due("pack(2) of 65", house.pack(2), 6);
        Kit.due("the last of 65", house.event(64, 0), 65);
        Kit.none("behind the last of 65", () -> house.event(65, 0));
    }

    private static void packing() {
        WatchHouse house = new WatchHouse();
        byte[] first = Kit.record(300, "abcdefghijkl", "aaaaaaaa", "123456789012345678901234", "bbbbbbbb",
                "123456789012345678901234", "cccccccc", "123456789012345678901234", "dddddddd",
                "123456789012345678901234", "eeeeeeee", "123456789012345678901234", "ffffffff",
                "123456789012345678901234", "gggggggg", "123456789012345678901234", "hhhhhhhh",
                "123456789012345678901234");
        byte[] second = Kit.record(1000, "b", "f", Integer.MIN_VALUE);
        Kit.due("two come", Kit.take(house, first, second), 2);
        packed(house, 0, first);
        packed(house, 1, second);
        packed(house, 0, first);
        Kit.none("pack(-1)", () -> house.pack(-1));
        Kit.due("the latest stays", house.count(7), first.length);
        Kit.none("octet(-1)", () -> house.octet(-1));
        Kit.none("octet(least)", () -> house.octet(Integer.MIN_VALUE));
        Kit.none("octet(most)", () -> house.octet(Integer.MAX_VALUE));
        Kit.none("octet behind the second", () -> {
            house.pack(1);
            return house.octet(second.length);
        });
    }

    private static void packed(WatchHouse house, int i, byte[] want) {
        Kit.due("pack(" + i + ")", house.pack(i), want.length);
        Kit.due("count(7)", house.count(7), want.length);
        for (int k = 0; k < want.length; k++) {
            Kit.due("octet(" + k + ") of " + i, house.octet(k), want[k] & 255);
        }
    }

    /** So many rules that each find every x, so that 4000 events come of few records. */
    private static String fillers(int count) {
        StringBuilder text = new StringBuilder();
        for (int k = 0; k < count; k++) {
            text.append("rule f").append((char) ('a' + k)).append(" count 1 of kind = x within 1;");
        }
        return text.toString();
    }

    private static void fill(WatchHouse house, int records, String kind) {
        byte[] one = Kit.record(0, kind);
        for (int come = 0; come < records;) {
            int some = Math.min(300, records - come);
            byte[][] row = new byte[some][];
            java.util.Arrays.fill(row, one);
            Kit.due("some come", Kit.take(house, row), some);
            come += some;
        }
    }

    private static void fourThousandEvents() {
        WatchHouse house = Kit.houseOf("rule a lack kind = y then kind = z within 5;rule b count 1 of kind = y within 1;"
                + fillers(10));
        Kit.take(house, Kit.record(1, "y"));
        fill(house, 363, "x");
        fill(house, 4, "w");
        Kit.due("nearly full", house.count(1), 3999);
        Kit.due("the last, and one too many", Kit.take(house, Kit.record(0, "w"), Kit.record(0, "w")), 1);
        Kit.due("full", house.count(1), 4000);
        Kit.due("made", house.count(2), 3631);
        Kit.due("one too many, another behind", Kit.take(house, Kit.record(9, "y"), Kit.record(0, "x")), 0);
        Kit.due("no fault", house.fault(), 0);
        Kit.due("no place", house.place(), -1);
        Kit.due("the tape is empty", house.count(6), 0);
        Kit.due("now is its time", house.count(5), 10);
        Kit.due("a lack was found by it", house.rule(0, 1), 1);
        Kit.due("its event does not come", house.count(1), 4000);
        Kit.due("nor is it made", house.count(2), 3631);
        Kit.due("not looked at", house.rule(1, 1), 1);
        Kit.due("below now", Kit.take(house, Kit.record(8, "x")), 0);
        Kit.due("fault 3, from the latest that came on", house.fault(), 3);
        Kit.due("at now", Kit.take(house, Kit.record(9, "x")), 0);
        Kit.due("no fault again", house.fault(), 0);
        Kit.due("new rules", house.rules(), 0);
        Kit.due("4000 may come anew", Kit.take(house, Kit.record(9, "x")), 1);
    }

    private static void fourThousandMade() {
        WatchHouse house = Kit.houseOf("rule a count 1 of kind = y within 1;rule b count 1 of kind = y within 1;"
                + "rule c count 1 of kind = alert within 1;" + fillers(9));
        fill(house, 399, "x");
        fill(house, 8, "w");
        Kit.due("two may come", house.count(1), 3998);
        Kit.due("one more", Kit.take(house, Kit.record(9, "y")), 1);
        Kit.due("full", house.count(1), 4000);
        Kit.due("one of two was made", house.count(2), 3592);
        Kit.due("both are alerts, c saw one", house.count(3), 3591 + 3);
        Kit.due("c saw one", house.rule(2, 1), 1);
        Kit.due("the last is that of a", house.event(3999, 3), 0);
    }

    private static void tooManyFaulty() {
        WatchHouse house = Kit.houseOf(fillers(9));
        fill(house, 400, "x");
        Kit.due("full", house.count(1), 4000);
        Kit.due("a bad one behind 4000", Kit.take(house, Kit.bytes(229, 0, 1, 'x', 0, 1)), 0);
        Kit.due("has its fault", house.fault(), 4);
        Kit.due("and its place", house.place(), 5);
        Kit.due("a short one behind 4000", Kit.take(house, Kit.bytes(229, 7)), 0);
        Kit.due("has fault 1", house.fault(), 1);
        Kit.due("now stays", house.count(5), 0);
    }

    private static void manyKeys() {
        WatchHouse house = Kit.houseOf("rule a count 2 of kind = x by f within 100000;rule b distinct 2 g of kind = x by f"
                + " within 100000;rule c chain kind = x then kind = y by f within 100000;");
        for (int k = 0; k < 400; k += 100) {
            byte[][] row = new byte[100][];
            for (int m = 0; m < 100; m++) {
                row[m] = Kit.record(1, "x", "f", (k + m) * 1024, "g", 1);
            }
            Kit.due("a hundred", Kit.take(house, row), 100);
        }
        Kit.due("no two of a key", house.count(3), 0);
        Kit.due("pairs", house.rule(2, 0), 400);
        for (int k = 0; k < 400; k += 100) {
            Kit.take(house, Kit.record(1, "x", "f", k * 1024, "g", 2));
        }
        Kit.due("four of two rules", house.count(3), 8);
        Kit.due("start", house.alert(7, 2), 300);
    }
}
