/** Promises 8 to 15: pass, count, alert, key, rule, event, pack, octet; each test names the sentence that it stands for. */
public final class AnswersTest {
    private static final String PASS = "NOW is later: true; false, and nothing happens, if time is below NOW or above"
            + " 2000000000.";
    private static final String COUNT = "0 RULES, 1 EVENTS that came, 2 of these made by ALERTS, 3 ALERTS, 4 HUSHED in all,"
            + " 5 NOW, 6 bytes of the tape, 7 bytes of the RECORD packed latest.";
    private static final String NO_ALERT = "NoSuchElementException: there is none such, or it is not one of the first 500, or"
            + " another what.";
    private static final String KEY = "Of the KEY of ALERT i, value k: 0 its SORT, 1 the INT, the ADDRESS as an int, how many"
            + " bytes the TEXT has, 2 .. 25 its bytes.";
    private static final String NO_KEY = "NoSuchElementException likewise (no such value or byte, too).";
    private static final String HELD = "What it HOLDS: count, distinct, sum: of how many EVENTS that may count in it (those"
            + " told for START) the TIME is above NOW less W";
    private static final String HELD_CHAIN = "chain of n COND: of how many pairs of a KEY and a j below n there are e1 < .. <"
            + " ej as told, e1's TIME above NOW less W, without one of unless behind e1";
    private static final String HELD_LACK = "lack: how many may still be FOUND.";
    private static final String NO_RULE = "NoSuchElementException: there is no such RULE, or another what.";
    private static final String EVENT = "Of EVENT i, one of the latest 64: 0 its TIME, 1 how many letters its KIND has, 2 how"
            + " many FIELDS, 3 the RULE whose ALERT made it, or NONE.";
    private static final String NO_EVENT = "NoSuchElementException: it is none such, or another what.";
    private static final String PACK = "EVENT i is packed to a RECORD, its TIME less that of the EVENT i - 1 (0 for the first"
            + " one): how many bytes.";
    private static final String NO_PACK = "NoSuchElementException: it is not one of the latest 64, or (unless i is 0) i - 1 is"
            + " not.";
    private static final int[] FAR = {-1, -2, 100000, Integer.MIN_VALUE, Integer.MIN_VALUE + 1, Integer.MAX_VALUE};
    private static final String FULL = "123456789012345678901234";

    public static void main(String[] args) {
        passing();
        passingRefused();
        passingToTheEnd();
        belowNow();
        counts();
        otherCounts();
        alerts();
        noAlert();
        fiveHundredAlerts();
        keys();
        noKey();
        keysOfFiveHundred();
        founds();
        held();
        heldOfDistinctAndSum();
        heldOfChains();
        heldOfChainsUnless();
        heldOfLacks();
        noRule();
        events();
        latestEvents();
        latestEventsAround();
        noEvent();
        packs();
        packsOfTimes();
        packsOfMostBytes();
        noPack();
        packsRefused();
        octets();
        manyKeys();
        Kit.finish("AnswersTest");
    }

    private static byte[] x(int after) {
        return Kit.record(after, "x");
    }

    private static byte[] y(int after) {
        return Kit.record(after, "y");
    }

    private static void passing() {
        Kit.sentence(8, PASS);
        WatchHouse house = new WatchHouse();
        Kit.due("pass(-1) at 0", house.pass(-1), false);
        Kit.due("pass(0) at 0", house.pass(0), true);
        Kit.due("pass(7) at 0", house.pass(7), true);
        Kit.due("now", house.count(5), 7);
        Kit.due("pass(6) at 7", house.pass(6), false);
        Kit.due("now still", house.count(5), 7);
        Kit.due("pass(7) at 7", house.pass(7), true);
        Kit.due("pass(8) at 7", house.pass(8), true);
        Kit.due("now is later", house.count(5), 8);
        Kit.take(house, x(10));
        Kit.due("pass(9) behind a record at 10", house.pass(9), false);
        Kit.due("pass(10) behind it", house.pass(10), true);
        Kit.due("no event comes of it", house.count(1), 1);
    }

    private static void passingRefused() {
        Kit.sentence(8, PASS);
        WatchHouse house = Kit.houseOf("rule a lack kind = x then kind = y within 5;");
        Kit.take(house, x(10));
        house.feed(0, 0, 0, 0, 0);
        for (int time : new int[] {9, 0, -1, Integer.MIN_VALUE, 2000000001, 2147483647}) {
            Kit.due("pass(" + time + ")", house.pass(time), false);
            Kit.due("now stays", house.count(5), 10);
            Kit.due("nothing is found", house.rule(0, 1), 0);
            Kit.due("it waits", house.rule(0, 0), 1);
            Kit.due("the tape stays", house.count(6), 20);
        }
        Kit.due("pass(16)", house.pass(16), true);
        Kit.due("found", house.rule(0, 1), 1);
    }

    private static void passingToTheEnd() {
        Kit.sentence(8, PASS);
        WatchHouse house = new WatchHouse();
        Kit.due("pass(1999999999)", house.pass(1999999999), true);
        Kit.due("pass(2000000001)", house.pass(2000000001), false);
        Kit.due("pass(2000000000)", house.pass(2000000000), true);
        Kit.due("now at the end", house.count(5), 2000000000);
        Kit.due("pass(2000000000) at the end", house.pass(2000000000), true);
        Kit.due("pass(1999999999) at the end", house.pass(1999999999), false);
        Kit.due("pass(2000000001) at the end", house.pass(2000000001), false);
        Kit.due("a record at the end", Kit.take(house, x(2000000000)), 1);
    }

    private static void belowNow() {
        Kit.sentence(8, "(A RECORD's TIME that would be below NOW then: FAULT 3.)");
        WatchHouse house = new WatchHouse();
        house.pass(300);
        Kit.due("one second below", Kit.take(house, x(299)), 0);
        Kit.due("fault", house.fault(), 3);
        Kit.due("place", house.place(), 1);
        Kit.due("nothing came", house.count(1), 0);
        Kit.due("at now", Kit.take(house, x(300)), 1);
        Kit.due("no fault", house.fault(), 0);
        house.pass(310);
        Kit.due("below now, above the one ahead", Kit.take(house, x(9)), 0);
        Kit.due("fault again", house.fault(), 3);
        Kit.due("at now again, then below it no more", Kit.take(house, x(10), x(0)), 2);
        house.pass(320);
        Kit.due("the first at now, a second behind", Kit.take(house, x(10), x(1)), 2);
        Kit.due("now", house.count(5), 321);
        house.pass(322);
        Kit.due("the first of two below now", Kit.take(house, x(0), x(5)), 0);
        Kit.due("place of the first", house.place(), 1);
        house.rules();
        Kit.due("behind rules() now is 0", Kit.take(house, x(0)), 1);
    }

    private static void counts() {
        Kit.sentence(9, COUNT);
        WatchHouse house = Kit.houseOf("rule a count 1 of kind = x within 1 quiet 5;rule b count 1 of alert a within 1;");
        Kit.take(house, x(7), x(1), y(1));
        house.pass(12);
        house.pack(0);
        house.feed(0, 0, 0, 0, 0);
        int[] want = {2, 4, 1, 2, 1, 12, 20, 6};
        for (int what = 0; what < want.length; what++) {
            Kit.due("count(" + what + ")", house.count(what), want[what]);
        }
    }

    private static void otherCounts() {
        Kit.sentence(9, "NONE for another what.");
        WatchHouse house = Kit.houseOf("rule a count 1 of kind = x within 1;");
        Kit.due("count(0)", house.count(0), 1);
        Kit.due("count(-1)", house.count(-1), -1);
        Kit.due("count(7)", house.count(7), 0);
        Kit.due("count(8)", house.count(8), -1);
        for (int what : FAR) {
            Kit.due("count(" + what + ")", house.count(what), -1);
        }
    }

    private static void alerts() {
        Kit.sentence(10, "Of ALERT i (0, 1, .. by when they came): 0 the RULE (from 0 on), 1 its TIME, 2 START, 3 its EVENT e"
                + " (of a lack that of START), 4 how many were HUSHED ahead of it.");
        WatchHouse house = Kit.houseOf("rule a lack kind = x then kind = z within 5;rule b count 2 of kind = x within 9"
                + " quiet 2;");
        Kit.take(house, y(7), x(0), x(1), x(1), x(1));
        house.pass(13);
        Kit.due("alerts", house.count(3), 3);
        Kit.alert(house, 0, 1, 8, 1, 2, 0);
        Kit.alert(house, 1, 1, 10, 4, 5, 1);
        Kit.alert(house, 2, 0, 12, 1, 1, 0);
    }

    private static void noAlert() {
        Kit.sentence(10, NO_ALERT);
        WatchHouse house = Kit.houseOf("rule a count 1 of kind = x by f within 5;");
        Kit.none("alert(0, 0) of none", () -> house.alert(0, 0));
        Kit.take(house, Kit.record(4, "x", "f", 1));
        Kit.due("alert(0, 0)", house.alert(0, 0), 0);
        Kit.due("alert(0, 4)", house.alert(0, 4), 0);
        Kit.none("alert(1, 0)", () -> house.alert(1, 0));
        Kit.none("alert(0, 5)", () -> house.alert(0, 5));
        for (int far : FAR) {
            Kit.none("alert(" + far + ", 0)", () -> house.alert(far, 0));
            Kit.none("alert(0, " + far + ")", () -> house.alert(0, far));
            Kit.none("alert(" + far + ", " + far + ")", () -> house.alert(far, far));
        }
        house.rules();
        Kit.none("alert(0, 0) behind rules()", () -> house.alert(0, 0));
    }

    private static void fiveHundredAlerts() {
        Kit.sentence(10, NO_ALERT);
        WatchHouse house = Kit.houseOf("rule a count 1 of has f within 5;rule b count 1 of has f within 5;");
        byte[] f = Kit.record(1, "x", "f", 1);
        Kit.fill(house, 249, f);
        Kit.none("alert(498, 0) of 498", () -> house.alert(498, 0));
        Kit.take(house, f);
        Kit.due("five hundred", house.count(3), 500);
        Kit.alert(house, 499, 1, 250, 3 * 249, 3 * 249, 0);
        Kit.none("alert(500, 0) of 500", () -> house.alert(500, 0));
        Kit.take(house, f);
        Kit.due("all are counted", house.count(3), 502);
        Kit.alert(house, 499, 1, 250, 3 * 249, 3 * 249, 0);
        Kit.none("alert(500, 0) of 502", () -> house.alert(500, 0));
        Kit.none("alert(501, 0) of 502", () -> house.alert(501, 0));
        Kit.due("those beyond make events too", house.count(2), 502);
        Kit.due("and are found", house.rule(1, 1), 251);
        Kit.due("the first is told still", house.alert(0, 1), 1);
    }

    private static void keys() {
        Kit.sentence(11, KEY);
        WatchHouse house = Kit.houseOf("rule a count 1 of kind = x by w, u, v within 5;");
        Kit.take(house, Kit.record(4, "x", "u", Integer.MIN_VALUE, "v", Kit.address(255, 255, 255, 254), "w", FULL),
                Kit.record(0, "x", "u", Integer.MAX_VALUE, "v", Kit.address(0, 0, 0, 0), "w", ""));
        int[][] want = {{1, 24}, {0, Integer.MIN_VALUE}, {2, -2}, {1, 0}, {0, Integer.MAX_VALUE}, {2, 0}};
        for (int k = 0; k < 3; k++) {
            for (int what = 0; what < 2; what++) {
                Kit.due("key(0, " + k + ", " + what + ")", house.key(0, k, what), want[k][what]);
                Kit.due("key(1, " + k + ", " + what + ")", house.key(1, k, what), want[3 + k][what]);
            }
        }
        for (int b = 0; b < 24; b++) {
            Kit.due("key(0, 0, " + (2 + b) + ")", house.key(0, 0, 2 + b), FULL.charAt(b));
        }
        WatchHouse ends = Kit.houseOf("rule a count 1 of kind = x by f within 5;");
        Kit.take(ends, Kit.record(0, "x", "f", " ~"));
        Kit.due("the least byte", ends.key(0, 0, 2), 32);
        Kit.due("the greatest byte", ends.key(0, 0, 3), 126);
    }

    private static void noKey() {
        Kit.sentence(11, NO_KEY);
        WatchHouse house = Kit.houseOf("rule a count 1 of kind = x by u, v, w within 5;rule b count 1 of kind = x within 5;"
                + "rule c count 1 of kind = x by f within 5;");
        Kit.none("key(0, 0, 0) of none", () -> house.key(0, 0, 0));
        Kit.take(house, Kit.record(4, "x", "f", "", "u", 5, "v", Kit.address(1, 2, 3, 4), "w", FULL));
        Kit.due("key(0, 0, 1)", house.key(0, 0, 1), 5);
        Kit.none("an INT has no byte", () -> house.key(0, 0, 2));
        Kit.none("an ADDRESS has none", () -> house.key(0, 1, 2));
        Kit.due("the last byte of the longest", house.key(0, 2, 25), '4');
        Kit.none("behind it", () -> house.key(0, 2, 26));
        Kit.none("a fourth value", () -> house.key(0, 3, 0));
        Kit.none("without by no value", () -> house.key(1, 0, 0));
        Kit.due("an empty TEXT", house.key(2, 0, 1), 0);
        Kit.none("has no byte", () -> house.key(2, 0, 2));
        Kit.none("a second value of one", () -> house.key(2, 1, 0));
        Kit.none("a fourth alert", () -> house.key(3, 0, 0));
        for (int far : FAR) {
            Kit.none("key(" + far + ", 0, 0)", () -> house.key(far, 0, 0));
            Kit.none("key(0, " + far + ", 0)", () -> house.key(0, far, 0));
            Kit.none("key(0, 0, " + far + ")", () -> house.key(0, 0, far));
            Kit.none("key(0, 1, " + far + ")", () -> house.key(0, 1, far));
            Kit.none("key(0, 2, " + far + ")", () -> house.key(0, 2, far));
        }
        WatchHouse some = Kit.houseOf("rule a count 1 of kind = x by f within 5;");
        Kit.take(some, Kit.record(0, "x", "f", "abc"));
        Kit.due("the third byte of three", some.key(0, 0, 4), 'c');
        Kit.none("a fourth of three", () -> some.key(0, 0, 5));
    }

    private static void keysOfFiveHundred() {
        Kit.sentence(11, NO_KEY);
        WatchHouse house = Kit.houseOf("rule a count 1 of kind = x by f within 5;rule b count 1 of kind = x by f within 5;");
        Kit.fill(house, 251, Kit.record(0, "x", "f", 7));
        Kit.due("alerts", house.count(3), 502);
        Kit.due("key(499, 0, 1)", house.key(499, 0, 1), 7);
        Kit.none("key(500, 0, 1)", () -> house.key(500, 0, 1));
        Kit.none("key(501, 0, 1)", () -> house.key(501, 0, 1));
    }

    private static void founds() {
        Kit.sentence(12, "Of RULE r: 0 what it HOLDS at NOW; 1 how many it FOUND.");
        WatchHouse house = Kit.houseOf("rule a count 2 of kind = x within 5 quiet 100;rule b count 1 of kind = y within 5;");
        Kit.take(house, x(0));
        Kit.due("found by none", house.rule(0, 1), 0);
        Kit.take(house, x(0), x(0), x(0));
        Kit.due("those hushed are found, too", house.rule(0, 1), 3);
        Kit.due("by the other rule none", house.rule(1, 1), 0);
        house.pass(1000);
        Kit.due("found stays found", house.rule(0, 1), 3);
        Kit.due("held does not", house.rule(0, 0), 0);
    }

    private static void held() {
        Kit.sentence(12, HELD);
        WatchHouse house = Kit.houseOf("rule a count 9 of kind = x within 10;rule b count 9 of kind = x by f within 10;"
                + "rule c count 9 of kind = x within 1;rule d count 9 of kind = x within 1000000;");
        Kit.due("nothing at first", house.rule(0, 0), 0);
        Kit.take(house, x(0), Kit.record(5, "x", "f", 1), Kit.record(0, "x", "f", 2), y(0));
        held(house, 3, 2, 2, 3);
        house.pass(6);
        held(house, 3, 2, 0, 3);
        house.pass(9);
        held(house, 3, 2, 0, 3);
        house.pass(10);
        held(house, 2, 2, 0, 3);
        house.pass(14);
        held(house, 2, 2, 0, 3);
        house.pass(15);
        held(house, 0, 0, 0, 3);
        house.pass(999999);
        held(house, 0, 0, 0, 3);
        house.pass(1000000);
        held(house, 0, 0, 0, 2);
        house.pass(1000005);
        held(house, 0, 0, 0, 0);
        house.pass(2000000000);
        held(house, 0, 0, 0, 0);
    }

    private static void held(WatchHouse house, int... want) {
        for (int r = 0; r < want.length; r++) {
            Kit.due("rule(" + r + ", 0) at " + house.count(5), house.rule(r, 0), want[r]);
        }
    }

    private static void heldOfDistinctAndSum() {
        Kit.sentence(12, HELD);
        WatchHouse house = Kit.houseOf("rule a distinct 9 f of kind = x within 10;rule b sum 900 f of kind = x within 10;");
        Kit.take(house, x(0), Kit.record(0, "x", "f", "t"), Kit.record(0, "y", "f", 1));
        held(house, 1, 0);
        Kit.take(house, Kit.record(0, "x", "f", 1), Kit.record(1, "x", "f", 1), Kit.record(0, "x", "f", -1));
        held(house, 4, 3);
        house.pass(10);
        held(house, 2, 2);
        house.pass(11);
        held(house, 0, 0);
        Kit.take(house, Kit.record(10, "x", "f", 1));
        held(house, 1, 1);
    }

    private static void heldOfChains() {
        Kit.sentence(12, HELD_CHAIN);
        WatchHouse house = Kit.houseOf("rule a chain kind = x then kind = y then kind = z within 10;rule b chain kind = x then"
                + " kind = y by f within 10;rule c chain kind = x within 10;");
        held(house, 0, 0, 0);
        Kit.take(house, y(0));
        held(house, 0, 0, 0);
        Kit.take(house, x(0), x(0));
        held(house, 1, 0, 0);
        Kit.take(house, Kit.record(1, "x", "f", 1), Kit.record(0, "x", "f", 2), Kit.record(0, "x", "f", 2));
        held(house, 1, 2, 0);
        Kit.take(house, y(1));
        held(house, 2, 2, 0);
        Kit.take(house, Kit.record(0, "z"), Kit.record(3, "x", "f", 2));
        held(house, 2, 2, 0);
        house.pass(10);
        // e1 of the pair with y is that at 1: it is greater than the one at 0
        held(house, 2, 2, 0);
        house.pass(11);
        held(house, 1, 1, 0);
        house.pass(14);
        held(house, 1, 1, 0);
        house.pass(15);
        held(house, 0, 0, 0);
        WatchHouse five = Kit.houseOf("rule a chain has f then has f then has f then has f then has f within 10;");
        byte[] f = Kit.record(0, "x", "f", 1);
        for (int k = 1; k <= 6; k++) {
            Kit.take(five, f);
            held(five, Math.min(k, 4));
        }
    }

    private static void heldOfChainsUnless() {
        Kit.sentence(12, HELD_CHAIN);
        WatchHouse house = Kit.houseOf("rule a chain kind = x then kind = y then kind = z unless has u within 10;");
        Kit.take(house, Kit.record(0, "x", "u", 1));
        held(house, 1);
        Kit.take(house, y(0));
        held(house, 2);
        Kit.take(house, Kit.record(0, "q", "u", 1));
        held(house, 0);
        Kit.take(house, x(0), Kit.record(0, "y", "u", 1));
        held(house, 0);
        Kit.take(house, x(0), y(0), Kit.record(0, "x", "u", 1));
        held(house, 1);
    }

    private static void heldOfLacks() {
        Kit.sentence(12, HELD_LACK);
        WatchHouse house = Kit.houseOf("rule a lack kind = x then kind = y within 10;rule b lack kind = x then kind = y by f"
                + " within 1;");
        Kit.take(house, x(0), Kit.record(0, "x", "f", 1), Kit.record(0, "x", "f", 1), Kit.record(1, "x", "f", 2));
        held(house, 4, 3);
        house.pass(2);
        held(house, 4, 1);
        Kit.take(house, Kit.record(1, "y", "f", 2));
        held(house, 0, 0);
        Kit.take(house, x(0));
        held(house, 1, 0);
        house.pass(12);
        held(house, 1, 0);
        house.pass(13);
        held(house, 0, 0);
        // one of a key is found, then the other one is answered
        Kit.take(house, x(15), x(5));
        held(house, 2, 0);
        house.pass(27);
        held(house, 2, 0);
        house.pass(28);
        held(house, 1, 0);
        Kit.take(house, y(6));
        held(house, 0, 0);
        Kit.take(house, x(0));
        held(house, 1, 0);
    }

    private static void noRule() {
        Kit.sentence(12, NO_RULE);
        WatchHouse house = new WatchHouse();
        Kit.none("rule(0, 0) of none", () -> house.rule(0, 0));
        Kit.rules(house, Kit.fillers(12));
        for (int r = 0; r < 12; r++) {
            Kit.due("rule(" + r + ", 0)", house.rule(r, 0), 0);
            Kit.due("rule(" + r + ", 1)", house.rule(r, 1), 0);
        }
        Kit.none("rule(12, 0) of twelve", () -> house.rule(12, 0));
        Kit.none("rule(12, 1) of twelve", () -> house.rule(12, 1));
        Kit.none("rule(0, 2)", () -> house.rule(0, 2));
        for (int far : FAR) {
            Kit.none("rule(" + far + ", 0)", () -> house.rule(far, 0));
            Kit.none("rule(0, " + far + ")", () -> house.rule(0, far));
            Kit.none("rule(" + far + ", " + far + ")", () -> house.rule(far, far));
        }
        Kit.rules(house, Kit.fillers(1));
        Kit.due("rule(0, 0) of one", house.rule(0, 0), 0);
        Kit.none("rule(1, 0) of one", () -> house.rule(1, 0));
    }

    private static void events() {
        Kit.sentence(13, EVENT);
        WatchHouse house = Kit.houseOf("rule a count 1 of kind = q within 1;rule b count 1 of kind = x by u, v within 1;");
        Kit.take(house, Kit.record(7, "x", "u", 1, "v", 2, "w", 3), Kit.record(0, "abcdefghijkl"));
        int[][] want = {{7, 1, 3, -1}, {7, 5, 2, 1}, {7, 12, 0, -1}};
        for (int i = 0; i < want.length; i++) {
            for (int what = 0; what < 4; what++) {
                Kit.due("event(" + i + ", " + what + ")", house.event(i, what), want[i][what]);
            }
        }
    }

    private static void latestEvents() {
        Kit.sentence(13, EVENT);
        WatchHouse house = new WatchHouse();
        Kit.fill(house, 64, x(1));
        Kit.due("the first of 64", house.event(0, 0), 1);
        Kit.due("the last of 64", house.event(63, 0), 64);
        Kit.none("behind the last of 64", () -> house.event(64, 0));
        Kit.take(house, x(1));
        Kit.none("the first of 65", () -> house.event(0, 0));
        Kit.due("the second of 65", house.event(1, 0), 2);
        Kit.due("the last of 65", house.event(64, 0), 65);
        Kit.none("behind the last of 65", () -> house.event(65, 0));
    }

    private static void latestEventsAround() {
        Kit.sentence(13, EVENT);
        WatchHouse house = new WatchHouse();
        Kit.fill(house, 127, x(1));
        for (int come = 127; come <= 129; come++) {
            int all = come;
            for (int i = all - 64; i < all; i++) {
                Kit.due("event(" + i + ", 0) of " + all, house.event(i, 0), i + 1);
            }
            Kit.none("one too old of " + all, () -> house.event(all - 65, 0));
            Kit.none("one too new of " + all, () -> house.event(all, 0));
            Kit.take(house, x(1));
        }
    }

    private static void noEvent() {
        Kit.sentence(13, NO_EVENT);
        WatchHouse house = new WatchHouse();
        Kit.none("event(0, 0) of none", () -> house.event(0, 0));
        Kit.take(house, x(1));
        Kit.due("event(0, 0)", house.event(0, 0), 1);
        Kit.due("event(0, 3)", house.event(0, 3), -1);
        Kit.none("event(0, 4)", () -> house.event(0, 4));
        Kit.none("event(1, 0)", () -> house.event(1, 0));
        for (int far : FAR) {
            Kit.none("event(" + far + ", 0)", () -> house.event(far, 0));
            Kit.none("event(0, " + far + ")", () -> house.event(0, far));
            Kit.none("event(" + far + ", " + far + ")", () -> house.event(far, far));
        }
        house.rules();
        Kit.none("event(0, 0) behind rules()", () -> house.event(0, 0));
    }

    private static void packs() {
        Kit.sentence(14, PACK);
        WatchHouse house = Kit.houseOf("rule a count 1 of kind = x by g, f within 1;");
        byte[] first = Kit.record(300, "x", "f", Integer.MIN_VALUE, "g", "");
        byte[] third = Kit.record(1000, "abcdefghijkl", "a", Kit.address(255, 0, 128, 1), "b", FULL, "c", Integer.MAX_VALUE);
        Kit.due("two come", Kit.take(house, first, third), 2);
        Kit.packs("pack(0)", house, 0, first);
        Kit.packs("pack(1), a made one", house, 1, Kit.record(0, "alert", "f", Integer.MIN_VALUE, "g", ""));
        Kit.packs("pack(2)", house, 2, third);
        Kit.packs("pack(0) again", house, 0, first);
    }

    private static void packsOfTimes() {
        Kit.sentence(14, PACK);
        WatchHouse house = Kit.houseOf("rule a lack kind = x then kind = y within 5;");
        Kit.take(house, x(127), Kit.record(128, "q"), Kit.record(0, "q"), Kit.record(1999999745, "q"));
        int[] want = {127, 5, 123, 0, 1999999745};
        Kit.due("the made one is the second", house.event(1, 3), 0);
        for (int i = 0; i < want.length; i++) {
            String kind = i == 0 ? "x" : i == 1 ? "alert" : "q";
            Kit.packs("pack(" + i + ")", house, i, Kit.record(want[i], kind));
        }
        WatchHouse passed = new WatchHouse();
        passed.pass(2000000000);
        Kit.take(passed, x(2000000000));
        Kit.packs("the first one from 0 on", passed, 0, x(2000000000));
    }

    private static void packsOfMostBytes() {
        Kit.sentence(14, PACK);
        Object[] fields = new Object[16];
        for (int k = 0; k < 8; k++) {
            fields[2 * k] = "abcdefg" + (char) ('a' + k);
            fields[2 * k + 1] = FULL;
        }
        byte[] most = Kit.record(2000000000, "abcdefghijkl", fields);
        Kit.due("bytes of the longest record", most.length, 301);
        WatchHouse house = new WatchHouse();
        Kit.due("it comes", Kit.take(house, most), 1);
        Kit.packs("pack of the longest", house, 0, most);
        Kit.none("no byte behind it", () -> house.octet(301));
        WatchHouse least = new WatchHouse();
        Kit.take(least, x(0));
        Kit.packs("pack of the shortest", least, 0, x(0));
    }

    private static void noPack() {
        Kit.sentence(14, NO_PACK);
        WatchHouse house = new WatchHouse();
        Kit.none("pack(0) of none", () -> house.pack(0));
        Kit.take(house, x(1));
        Kit.due("pack(0) of one", house.pack(0), 6);
        Kit.none("pack(1) of one", () -> house.pack(1));
        for (int far : FAR) {
            Kit.none("pack(" + far + ")", () -> house.pack(far));
        }
        Kit.fill(house, 63, x(1));
        Kit.due("pack(0) of 64", house.pack(0), 6);
        Kit.due("pack(63) of 64", house.pack(63), 6);
        Kit.none("pack(64) of 64", () -> house.pack(64));
        Kit.take(house, x(1));
        Kit.none("pack(0) of 65", () -> house.pack(0));
        Kit.none("pack(1) of 65: the one ahead of it is none of the latest", () -> house.pack(1));
        Kit.due("event(1, 0) of 65 is told all the same", house.event(1, 0), 2);
        Kit.due("pack(2) of 65", house.pack(2), 6);
        Kit.due("pack(64) of 65", house.pack(64), 6);
        Kit.none("pack(65) of 65", () -> house.pack(65));
    }

    private static void packsRefused() {
        Kit.sentence(14, NO_PACK);
        WatchHouse house = new WatchHouse();
        Kit.take(house, Kit.record(5, "first"), x(1));
        Kit.due("pack(0)", house.pack(0), 10);
        Kit.none("pack(2)", () -> house.pack(2));
        Kit.due("the one packed latest stays", house.count(7), 10);
        Kit.due("its letters stay", house.octet(3), 'f');
        house.rules();
        Kit.none("pack(0) behind rules()", () -> house.pack(0));
        Kit.due("it stays behind rules(), too", house.count(7), 10);
        Kit.due("its last letter", house.octet(7), 't');
    }

    private static void octets() {
        Kit.sentence(15, "Byte k of the RECORD packed latest. NoSuchElementException: there is none such.");
        WatchHouse house = new WatchHouse();
        Kit.none("octet(0) ahead of any pack", () -> house.octet(0));
        Kit.take(house, Kit.record(5, "abcdef"), x(1));
        Kit.none("octet(0) still", () -> house.octet(0));
        house.pack(0);
        Kit.due("octet(0)", house.octet(0), 229);
        Kit.due("octet(9)", house.octet(9), 0);
        Kit.due("octet(10), the check", house.octet(10), Kit.record(5, "abcdef")[10] & 255);
        Kit.none("octet(11) of 11", () -> house.octet(11));
        house.pack(1);
        Kit.due("octet(5), the check", house.octet(5), x(1)[5] & 255);
        Kit.none("octet(6) of 6", () -> house.octet(6));
        Kit.none("octet(10) of 6", () -> house.octet(10));
        for (int far : FAR) {
            Kit.none("octet(" + far + ")", () -> house.octet(far));
        }
    }

    /** More keys than a rule has buckets. */
    private static void manyKeys() {
        Kit.sentence(12, HELD_CHAIN);
        WatchHouse house = Kit.houseOf("rule a count 2 of kind = x by f within 100000;rule b distinct 2 g of kind = x by f"
                + " within 100000;rule c chain kind = x then kind = y by f within 100000;");
        for (int k = 0; k < 400; k += 100) {
            byte[][] row = new byte[100][];
            for (int m = 0; m < 100; m++) {
                row[m] = Kit.record(1, "x", "f", (k + m) * 1024, "g", 1);
            }
            Kit.due("a hundred", Kit.take(house, row), 100);
        }
        Kit.due("no two of a key", house.count(3), 0);
        Kit.due("pairs", house.rule(2, 0), 400);
        for (int k = 0; k < 400; k += 100) {
            Kit.take(house, Kit.record(1, "x", "f", k * 1024, "g", 2));
        }
        Kit.due("four of two rules", house.count(3), 8);
        Kit.due("start", house.alert(7, 2), 300);
    }
}
